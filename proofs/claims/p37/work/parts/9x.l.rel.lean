/-! the law's methods as relations: isMoney -/
def z177 : mAl := ((yL_isMoney, cL_isMoney, 9, (some .boolean), { frames := 8, cells := 60, slots := 540, locals := 133 }, []), rw_L_isMoney, false)
theorem z177_at : m_alF[177]? = some z177 := rfl
def P177 (σ : mS) (w : mX) (σ' : mS) : Prop := ((∃ v1, P145 σ (Int32.ofInt (-1)) (Int32.ofInt 0) (.inl (some (.inr (.inl v1)))) σ ∧ ((∃ v5, P145 σ (Int32.ofInt (-1)) (Int32.ofInt 2) (.inl (some (.inr (.inl v5)))) σ ∧ (((∃ v10, P145 σ (Int32.ofInt 0) (Int32.ofInt 0) (.inl (some (.inr (.inl v10)))) σ ∧ ((∃ v14, P145 σ (Int32.ofInt 0) (Int32.ofInt 1) (.inl (some (.inr (.inl v14)))) σ ∧ ((∃ v18, P145 σ (Int32.ofInt 0) (Int32.ofInt 2) (.inl (some (.inr (.inl v18)))) σ ∧ ∃ n22, n22 = ((v1) + (v5)) + (((v10) + (v14)) + (v18)) ∧ (((∃ v25, P145 σ (Int32.ofInt 1) (Int32.ofInt 0) (.inl (some (.inr (.inl v25)))) σ ∧ ((∃ v29, P145 σ (Int32.ofInt 1) (Int32.ofInt 1) (.inl (some (.inr (.inl v29)))) σ ∧ ((∃ v33, P145 σ (Int32.ofInt 1) (Int32.ofInt 2) (.inl (some (.inr (.inl v33)))) σ ∧ ∃ n37, n37 = (n22) + (((v25) + (v29)) + (v33)) ∧ (((∃ v40, P145 σ (Int32.ofInt 2) (Int32.ofInt 0) (.inl (some (.inr (.inl v40)))) σ ∧ ((∃ v44, P145 σ (Int32.ofInt 2) (Int32.ofInt 1) (.inl (some (.inr (.inl v44)))) σ ∧ ((∃ v48, P145 σ (Int32.ofInt 2) (Int32.ofInt 2) (.inl (some (.inr (.inl v48)))) σ ∧ ∃ n52, n52 = (n37) + (((v40) + (v44)) + (v48)) ∧ (((∃ v55, P145 σ (Int32.ofInt 3) (Int32.ofInt 0) (.inl (some (.inr (.inl v55)))) σ ∧ ((∃ v59, P145 σ (Int32.ofInt 3) (Int32.ofInt 1) (.inl (some (.inr (.inl v59)))) σ ∧ ((∃ v63, P145 σ (Int32.ofInt 3) (Int32.ofInt 2) (.inl (some (.inr (.inl v63)))) σ ∧ ∃ n67, n67 = (n52) + (((v55) + (v59)) + (v63)) ∧ (((∃ v70, P145 σ (Int32.ofInt 4) (Int32.ofInt 0) (.inl (some (.inr (.inl v70)))) σ ∧ ((∃ v74, P145 σ (Int32.ofInt 4) (Int32.ofInt 1) (.inl (some (.inr (.inl v74)))) σ ∧ ((∃ v78, P145 σ (Int32.ofInt 4) (Int32.ofInt 2) (.inl (some (.inr (.inl v78)))) σ ∧ ∃ n82, n82 = (n67) + (((v70) + (v74)) + (v78)) ∧ ((0 ≤ (0 : Int) ∧ (0 : Int) < (σ.2.1 14 (6) : Int)) ∧ (((n82).toInt ≠ (m_l σ 14 (6) (Int32.ofInt 0).toNatClampNeg).toInt ∧ ((w = .inl (some (.inl (Int32.ofInt 0))) ∧ σ' = σ))) ∨ (¬ ((n82).toInt ≠ (m_l σ 14 (6) (Int32.ofInt 0).toNatClampNeg).toInt) ∧ ((∃ v89, P145 σ (Int32.ofInt (-1)) (Int32.ofInt 1) (.inl (some (.inr (.inl v89)))) σ ∧ (((v89).toInt < (Int64.ofNat 0).toInt ∧ ((w = .inl (some (.inl (Int32.ofInt 0))) ∧ σ' = σ))) ∨ (¬ ((v89).toInt < (Int64.ofNat 0).toInt) ∧ ((∃ v96, P145 σ (Int32.ofInt (-1)) (Int32.ofInt 2) (.inl (some (.inr (.inl v96)))) σ ∧ (((v96).toInt < (Int64.ofNat 0).toInt ∧ ((w = .inl (some (.inl (Int32.ofInt 0))) ∧ σ' = σ))) ∨ (¬ ((v96).toInt < (Int64.ofNat 0).toInt) ∧ ((((∃ v105, P144 σ (Int32.ofInt (-1)) (Int32.ofInt 0) (.inl (some (.inr (.inl v105)))) σ ∧ (((∃ v110, P144 σ (Int32.ofInt 0) (Int32.ofInt 0) (.inl (some (.inr (.inl v110)))) σ ∧ (((∃ v115, P144 σ (Int32.ofInt 1) (Int32.ofInt 0) (.inl (some (.inr (.inl v115)))) σ ∧ (((∃ v120, P144 σ (Int32.ofInt 2) (Int32.ofInt 0) (.inl (some (.inr (.inl v120)))) σ ∧ ∃ n124, n124 = (((v105) + (v110)) + (v115)) + (v120) ∧ (((∃ v127, P144 σ (Int32.ofInt 3) (Int32.ofInt 0) (.inl (some (.inr (.inl v127)))) σ ∧ (((∃ v132, P144 σ (Int32.ofInt 4) (Int32.ofInt 0) (.inl (some (.inr (.inl v132)))) σ ∧ ((((((n124) + (v127)) + (v132)).toInt ≠ (Int64.ofNat 0).toInt ∧ ((w = .inl (some (.inl (Int32.ofInt 0))) ∧ σ' = σ))) ∨ (¬ ((((n124) + (v127)) + (v132)).toInt ≠ (Int64.ofNat 0).toInt) ∧ ((((∃ v142, P144 σ (Int32.ofInt (-1)) (Int32.ofInt 1) (.inl (some (.inr (.inl v142)))) σ ∧ (((∃ v147, P144 σ (Int32.ofInt 0) (Int32.ofInt 1) (.inl (some (.inr (.inl v147)))) σ ∧ (((∃ v152, P144 σ (Int32.ofInt 1) (Int32.ofInt 1) (.inl (some (.inr (.inl v152)))) σ ∧ (((∃ v157, P144 σ (Int32.ofInt 2) (Int32.ofInt 1) (.inl (some (.inr (.inl v157)))) σ ∧ ∃ n161, n161 = (((v142) + (v147)) + (v152)) + (v157) ∧ (((∃ v164, P144 σ (Int32.ofInt 3) (Int32.ofInt 1) (.inl (some (.inr (.inl v164)))) σ ∧ (((∃ v169, P144 σ (Int32.ofInt 4) (Int32.ofInt 1) (.inl (some (.inr (.inl v169)))) σ ∧ ((((((n161) + (v164)) + (v169)).toInt ≠ (Int64.ofNat 0).toInt ∧ ((w = .inl (some (.inl (Int32.ofInt 0))) ∧ σ' = σ))) ∨ (¬ ((((n161) + (v164)) + (v169)).toInt ≠ (Int64.ofNat 0).toInt) ∧ ((((∃ v179, P144 σ (Int32.ofInt (-1)) (Int32.ofInt 2) (.inl (some (.inr (.inl v179)))) σ ∧ (((∃ v184, P144 σ (Int32.ofInt 0) (Int32.ofInt 2) (.inl (some (.inr (.inl v184)))) σ ∧ (((∃ v189, P144 σ (Int32.ofInt 1) (Int32.ofInt 2) (.inl (some (.inr (.inl v189)))) σ ∧ (((∃ v194, P144 σ (Int32.ofInt 2) (Int32.ofInt 2) (.inl (some (.inr (.inl v194)))) σ ∧ ∃ n198, n198 = (((v179) + (v184)) + (v189)) + (v194) ∧ (((∃ v201, P144 σ (Int32.ofInt 3) (Int32.ofInt 2) (.inl (some (.inr (.inl v201)))) σ ∧ (((∃ v206, P144 σ (Int32.ofInt 4) (Int32.ofInt 2) (.inl (some (.inr (.inl v206)))) σ ∧ ((((((n198) + (v201)) + (v206)).toInt ≠ (Int64.ofNat 0).toInt ∧ (w = .inl (some (.inl (Int32.ofInt 0))) ∧ σ' = σ)) ∨ (¬ ((((n198) + (v201)) + (v206)).toInt ≠ (Int64.ofNat 0).toInt) ∧ (w = .inl (some (.inl (Int32.ofInt 1))) ∧ σ' = σ))))) ∨ (∃ b, P144 σ (Int32.ofInt 4) (Int32.ofInt 2) (.inr b) σ ∧ w = .inr b ∧ σ' = σ)))) ∨ (∃ b, P144 σ (Int32.ofInt 3) (Int32.ofInt 2) (.inr b) σ ∧ w = .inr b ∧ σ' = σ)))) ∨ (∃ b, P144 σ (Int32.ofInt 2) (Int32.ofInt 2) (.inr b) σ ∧ w = .inr b ∧ σ' = σ)))) ∨ (∃ b, P144 σ (Int32.ofInt 1) (Int32.ofInt 2) (.inr b) σ ∧ w = .inr b ∧ σ' = σ)))) ∨ (∃ b, P144 σ (Int32.ofInt 0) (Int32.ofInt 2) (.inr b) σ ∧ w = .inr b ∧ σ' = σ)))) ∨ (∃ b, P144 σ (Int32.ofInt (-1)) (Int32.ofInt 2) (.inr b) σ ∧ w = .inr b ∧ σ' = σ)))))))) ∨ (∃ b, P144 σ (Int32.ofInt 4) (Int32.ofInt 1) (.inr b) σ ∧ w = .inr b ∧ σ' = σ)))) ∨ (∃ b, P144 σ (Int32.ofInt 3) (Int32.ofInt 1) (.inr b) σ ∧ w = .inr b ∧ σ' = σ)))) ∨ (∃ b, P144 σ (Int32.ofInt 2) (Int32.ofInt 1) (.inr b) σ ∧ w = .inr b ∧ σ' = σ)))) ∨ (∃ b, P144 σ (Int32.ofInt 1) (Int32.ofInt 1) (.inr b) σ ∧ w = .inr b ∧ σ' = σ)))) ∨ (∃ b, P144 σ (Int32.ofInt 0) (Int32.ofInt 1) (.inr b) σ ∧ w = .inr b ∧ σ' = σ)))) ∨ (∃ b, P144 σ (Int32.ofInt (-1)) (Int32.ofInt 1) (.inr b) σ ∧ w = .inr b ∧ σ' = σ)))))))) ∨ (∃ b, P144 σ (Int32.ofInt 4) (Int32.ofInt 0) (.inr b) σ ∧ w = .inr b ∧ σ' = σ)))) ∨ (∃ b, P144 σ (Int32.ofInt 3) (Int32.ofInt 0) (.inr b) σ ∧ w = .inr b ∧ σ' = σ)))) ∨ (∃ b, P144 σ (Int32.ofInt 2) (Int32.ofInt 0) (.inr b) σ ∧ w = .inr b ∧ σ' = σ)))) ∨ (∃ b, P144 σ (Int32.ofInt 1) (Int32.ofInt 0) (.inr b) σ ∧ w = .inr b ∧ σ' = σ)))) ∨ (∃ b, P144 σ (Int32.ofInt 0) (Int32.ofInt 0) (.inr b) σ ∧ w = .inr b ∧ σ' = σ)))) ∨ (∃ b, P144 σ (Int32.ofInt (-1)) (Int32.ofInt 0) (.inr b) σ ∧ w = .inr b ∧ σ' = σ))))))) ∨ (∃ b, P145 σ (Int32.ofInt (-1)) (Int32.ofInt 2) (.inr b) σ ∧ w = .inr b ∧ σ' = σ))))) ∨ (∃ b, P145 σ (Int32.ofInt (-1)) (Int32.ofInt 1) (.inr b) σ ∧ w = .inr b ∧ σ' = σ)))))) ∨ (∃ b, P145 σ (Int32.ofInt 4) (Int32.ofInt 2) (.inr b) σ ∧ w = .inr b ∧ σ' = σ))) ∨ (∃ b, P145 σ (Int32.ofInt 4) (Int32.ofInt 1) (.inr b) σ ∧ w = .inr b ∧ σ' = σ))) ∨ (∃ b, P145 σ (Int32.ofInt 4) (Int32.ofInt 0) (.inr b) σ ∧ w = .inr b ∧ σ' = σ)))) ∨ (∃ b, P145 σ (Int32.ofInt 3) (Int32.ofInt 2) (.inr b) σ ∧ w = .inr b ∧ σ' = σ))) ∨ (∃ b, P145 σ (Int32.ofInt 3) (Int32.ofInt 1) (.inr b) σ ∧ w = .inr b ∧ σ' = σ))) ∨ (∃ b, P145 σ (Int32.ofInt 3) (Int32.ofInt 0) (.inr b) σ ∧ w = .inr b ∧ σ' = σ)))) ∨ (∃ b, P145 σ (Int32.ofInt 2) (Int32.ofInt 2) (.inr b) σ ∧ w = .inr b ∧ σ' = σ))) ∨ (∃ b, P145 σ (Int32.ofInt 2) (Int32.ofInt 1) (.inr b) σ ∧ w = .inr b ∧ σ' = σ))) ∨ (∃ b, P145 σ (Int32.ofInt 2) (Int32.ofInt 0) (.inr b) σ ∧ w = .inr b ∧ σ' = σ)))) ∨ (∃ b, P145 σ (Int32.ofInt 1) (Int32.ofInt 2) (.inr b) σ ∧ w = .inr b ∧ σ' = σ))) ∨ (∃ b, P145 σ (Int32.ofInt 1) (Int32.ofInt 1) (.inr b) σ ∧ w = .inr b ∧ σ' = σ))) ∨ (∃ b, P145 σ (Int32.ofInt 1) (Int32.ofInt 0) (.inr b) σ ∧ w = .inr b ∧ σ' = σ)))) ∨ (∃ b, P145 σ (Int32.ofInt 0) (Int32.ofInt 2) (.inr b) σ ∧ w = .inr b ∧ σ' = σ))) ∨ (∃ b, P145 σ (Int32.ofInt 0) (Int32.ofInt 1) (.inr b) σ ∧ w = .inr b ∧ σ' = σ))) ∨ (∃ b, P145 σ (Int32.ofInt 0) (Int32.ofInt 0) (.inr b) σ ∧ w = .inr b ∧ σ' = σ)))) ∨ (∃ b, P145 σ (Int32.ofInt (-1)) (Int32.ofInt 2) (.inr b) σ ∧ w = .inr b ∧ σ' = σ))) ∨ (∃ b, P145 σ (Int32.ofInt (-1)) (Int32.ofInt 0) (.inr b) σ ∧ w = .inr b ∧ σ' = σ))
set_option maxRecDepth 100000 in
theorem x177 {σ σ' : mS} {w : mX} (hs : HL σ) (h : ev_run sm_all 177 [rf 11 (0), rf 14 (6)] σ (w) σ') : P177 σ w σ' := by
  unfold P177
  obtain ⟨F, f, h⟩ := ei_go h z177_at
  replace h : EV F f 177 z177 0 [some (rf 11 (0)), some (rf 14 (6)), none, none, none, none, none, none, none] [] σ (w, σ') := h
  replace h := ei_p h rfl rfl rfl rfl
  obtain ⟨f, g, h⟩ := h
  clear g
  replace h : EV F f 177 z177 1 [some (rf 11 (0)), some (rf 14 (6)), none, none, none, none, none, none, none] [rf 11 (0)] σ (w, σ') := h
  replace h := ei_p h rfl rfl rfl rfl
  obtain ⟨f, g, h⟩ := h
  clear g
  replace h : EV F f 177 z177 2 [some (rf 11 (0)), some (rf 14 (6)), none, none, none, none, none, none, none] [.inl (Int32.ofInt (-1)), rf 11 (0)] σ (w, σ') := h
  replace h := ei_p h rfl rfl rfl rfl
  obtain ⟨f, g, h⟩ := h
  clear g
  replace h : EV F f 177 z177 3 [some (rf 11 (0)), some (rf 14 (6)), none, none, none, none, none, none, none] [.inl (Int32.ofInt 0), .inl (Int32.ofInt (-1)), rf 11 (0)] σ (w, σ') := h
  replace h := bx_L (ei_v (as := [.inl (Int32.ofInt 0), .inl (Int32.ofInt (-1))]) h rfl rfl rfl) z145_at rfl
  rcases h with ⟨v1, σ2, r3, f, g, h⟩ | ⟨b, σ2, r3, e⟩
  · skip
    have er3 := ro2_run rfl r3
    rw [er3] at h r3
    clear g
    have p4 := x145 hs.1 r3
    refine Or.inl ⟨v1, p4, ?_⟩
    replace h : EV F f 177 z177 6 [some (rf 11 (0)), some (rf 14 (6)), none, none, none, none, none, none, none] [.inr (.inl (v1))] σ (w, σ') := h
    replace h := ei_p h rfl rfl rfl rfl
    obtain ⟨f, g, h⟩ := h
    clear g
    replace h : EV F f 177 z177 7 [some (rf 11 (0)), some (rf 14 (6)), none, none, none, none, none, none, none] [rf 11 (0), .inr (.inl (v1))] σ (w, σ') := h
    replace h := ei_p h rfl rfl rfl rfl
    obtain ⟨f, g, h⟩ := h
    clear g
    replace h : EV F f 177 z177 8 [some (rf 11 (0)), some (rf 14 (6)), none, none, none, none, none, none, none] [.inl (Int32.ofInt (-1)), rf 11 (0), .inr (.inl (v1))] σ (w, σ') := h
    replace h := ei_p h rfl rfl rfl rfl
    obtain ⟨f, g, h⟩ := h
    clear g
    replace h : EV F f 177 z177 9 [some (rf 11 (0)), some (rf 14 (6)), none, none, none, none, none, none, none] [.inl (Int32.ofInt 2), .inl (Int32.ofInt (-1)), rf 11 (0), .inr (.inl (v1))] σ (w, σ') := h
    replace h := bx_L (ei_v (as := [.inl (Int32.ofInt 2), .inl (Int32.ofInt (-1))]) h rfl rfl rfl) z145_at rfl
    rcases h with ⟨v5, σ6, r7, f, g, h⟩ | ⟨b, σ6, r7, e⟩
    · skip
      have er7 := ro2_run rfl r7
      rw [er7] at h r7
      clear g
      have p8 := x145 hs.1 r7
      refine Or.inl ⟨v5, p8, ?_⟩
      replace h : EV F f 177 z177 12 [some (rf 11 (0)), some (rf 14 (6)), none, none, none, none, none, none, none] [.inr (.inl (v5)), .inr (.inl (v1))] σ (w, σ') := h
      replace h := ei_p h rfl rfl rfl rfl
      obtain ⟨f, g, h⟩ := h
      clear g
      replace h : EV F f 177 z177 13 [some (rf 11 (0)), some (rf 14 (6)), none, none, none, none, none, none, none] [.inr (.inl ((v1) + (v5)))] σ (w, σ') := h
      replace h := ei_p h rfl rfl rfl rfl
      obtain ⟨f, g, h⟩ := h
      clear g
      replace h : EV F f 177 z177 14 [some (rf 11 (0)), some (rf 14 (6)), some (.inr (.inl ((v1) + (v5)))), none, none, none, none, none, none] [] σ (w, σ') := h
      replace h := ei_p h rfl rfl rfl rfl
      obtain ⟨f, g, h⟩ := h
      clear g
      replace h : EV F f 177 z177 15 [some (rf 11 (0)), some (rf 14 (6)), some (.inr (.inl ((v1) + (v5)))), none, none, none, none, none, none] [.inl (Int32.ofInt 0)] σ (w, σ') := h
      replace h := ei_p h rfl rfl rfl rfl
      obtain ⟨f, g, h⟩ := h
      clear g
      replace h : EV F f 177 z177 17 [some (rf 11 (0)), some (rf 14 (6)), some (.inr (.inl ((v1) + (v5)))), none, some (.inl (Int32.ofInt 0)), none, none, none, none] [] σ (w, σ') := h
      replace h := ei_p h rfl rfl rfl rfl
      obtain ⟨f, g, h⟩ := h
      clear g
      replace h : EV F f 177 z177 19 [some (rf 11 (0)), some (rf 14 (6)), some (.inr (.inl ((v1) + (v5)))), none, some (.inl (Int32.ofInt 0)), none, none, none, none] [.inl (Int32.ofInt 0)] σ (w, σ') := h
      replace h := ei_p h rfl rfl rfl rfl
      obtain ⟨f, g, h⟩ := h
      clear g
      replace h : EV F f 177 z177 20 [some (rf 11 (0)), some (rf 14 (6)), some (.inr (.inl ((v1) + (v5)))), none, some (.inl (Int32.ofInt 0)), none, none, none, none] [.inl (Int32.ofInt 5), .inl (Int32.ofInt 0)] σ (w, σ') := h
      replace h := ei_c h rfl rfl rfl
      rcases h with ⟨hp9, f, g, h⟩ | ⟨hp9, f, g, h⟩
      · exact absurd (ic_ge.mp hp9) (by decide)
      · skip
        clear g
        replace h : EV F f 177 z177 23 [some (rf 11 (0)), some (rf 14 (6)), some (.inr (.inl ((v1) + (v5)))), none, some (.inl (Int32.ofInt 0)), none, none, none, none] [] σ (w, σ') := h
        replace h := ei_p h rfl rfl rfl rfl
        obtain ⟨f, g, h⟩ := h
        clear g
        replace h : EV F f 177 z177 24 [some (rf 11 (0)), some (rf 14 (6)), some (.inr (.inl ((v1) + (v5)))), none, some (.inl (Int32.ofInt 0)), none, none, none, none] [.inr (.inl ((v1) + (v5)))] σ (w, σ') := h
        replace h := ei_p h rfl rfl rfl rfl
        obtain ⟨f, g, h⟩ := h
        clear g
        replace h : EV F f 177 z177 25 [some (rf 11 (0)), some (rf 14 (6)), some (.inr (.inl ((v1) + (v5)))), none, some (.inl (Int32.ofInt 0)), none, none, none, none] [rf 11 (0), .inr (.inl ((v1) + (v5)))] σ (w, σ') := h
        replace h := ei_p h rfl rfl rfl rfl
        obtain ⟨f, g, h⟩ := h
        clear g
        replace h : EV F f 177 z177 27 [some (rf 11 (0)), some (rf 14 (6)), some (.inr (.inl ((v1) + (v5)))), none, some (.inl (Int32.ofInt 0)), none, none, none, none] [.inl (Int32.ofInt 0), rf 11 (0), .inr (.inl ((v1) + (v5)))] σ (w, σ') := h
        replace h := ei_p h rfl rfl rfl rfl
        obtain ⟨f, g, h⟩ := h
        clear g
        replace h : EV F f 177 z177 28 [some (rf 11 (0)), some (rf 14 (6)), some (.inr (.inl ((v1) + (v5)))), none, some (.inl (Int32.ofInt 0)), none, none, none, none] [.inl (Int32.ofInt 0), .inl (Int32.ofInt 0), rf 11 (0), .inr (.inl ((v1) + (v5)))] σ (w, σ') := h
        replace h := bx_L (ei_v (as := [.inl (Int32.ofInt 0), .inl (Int32.ofInt 0)]) h rfl rfl rfl) z145_at rfl
        rcases h with ⟨v10, σ11, r12, f, g, h⟩ | ⟨b, σ11, r12, e⟩
        · skip
          have er12 := ro2_run rfl r12
          rw [er12] at h r12
          clear g
          have p13 := x145 hs.1 r12
          refine Or.inl ⟨v10, p13, ?_⟩
          replace h : EV F f 177 z177 31 [some (rf 11 (0)), some (rf 14 (6)), some (.inr (.inl ((v1) + (v5)))), none, some (.inl (Int32.ofInt 0)), none, none, none, none] [.inr (.inl (v10)), .inr (.inl ((v1) + (v5)))] σ (w, σ') := h
          replace h := ei_p h rfl rfl rfl rfl
          obtain ⟨f, g, h⟩ := h
          clear g
          replace h : EV F f 177 z177 32 [some (rf 11 (0)), some (rf 14 (6)), some (.inr (.inl ((v1) + (v5)))), none, some (.inl (Int32.ofInt 0)), none, none, none, none] [rf 11 (0), .inr (.inl (v10)), .inr (.inl ((v1) + (v5)))] σ (w, σ') := h
          replace h := ei_p h rfl rfl rfl rfl
          obtain ⟨f, g, h⟩ := h
          clear g
          replace h : EV F f 177 z177 34 [some (rf 11 (0)), some (rf 14 (6)), some (.inr (.inl ((v1) + (v5)))), none, some (.inl (Int32.ofInt 0)), none, none, none, none] [.inl (Int32.ofInt 0), rf 11 (0), .inr (.inl (v10)), .inr (.inl ((v1) + (v5)))] σ (w, σ') := h
          replace h := ei_p h rfl rfl rfl rfl
          obtain ⟨f, g, h⟩ := h
          clear g
          replace h : EV F f 177 z177 35 [some (rf 11 (0)), some (rf 14 (6)), some (.inr (.inl ((v1) + (v5)))), none, some (.inl (Int32.ofInt 0)), none, none, none, none] [.inl (Int32.ofInt 1), .inl (Int32.ofInt 0), rf 11 (0), .inr (.inl (v10)), .inr (.inl ((v1) + (v5)))] σ (w, σ') := h
          replace h := bx_L (ei_v (as := [.inl (Int32.ofInt 1), .inl (Int32.ofInt 0)]) h rfl rfl rfl) z145_at rfl
          rcases h with ⟨v14, σ15, r16, f, g, h⟩ | ⟨b, σ15, r16, e⟩
          · skip
            have er16 := ro2_run rfl r16
            rw [er16] at h r16
            clear g
            have p17 := x145 hs.1 r16
            refine Or.inl ⟨v14, p17, ?_⟩
            replace h : EV F f 177 z177 38 [some (rf 11 (0)), some (rf 14 (6)), some (.inr (.inl ((v1) + (v5)))), none, some (.inl (Int32.ofInt 0)), none, none, none, none] [.inr (.inl (v14)), .inr (.inl (v10)), .inr (.inl ((v1) + (v5)))] σ (w, σ') := h
            replace h := ei_p h rfl rfl rfl rfl
            obtain ⟨f, g, h⟩ := h
            clear g
            replace h : EV F f 177 z177 39 [some (rf 11 (0)), some (rf 14 (6)), some (.inr (.inl ((v1) + (v5)))), none, some (.inl (Int32.ofInt 0)), none, none, none, none] [.inr (.inl ((v10) + (v14))), .inr (.inl ((v1) + (v5)))] σ (w, σ') := h
            replace h := ei_p h rfl rfl rfl rfl
            obtain ⟨f, g, h⟩ := h
            clear g
            replace h : EV F f 177 z177 40 [some (rf 11 (0)), some (rf 14 (6)), some (.inr (.inl ((v1) + (v5)))), none, some (.inl (Int32.ofInt 0)), none, none, none, none] [rf 11 (0), .inr (.inl ((v10) + (v14))), .inr (.inl ((v1) + (v5)))] σ (w, σ') := h
            replace h := ei_p h rfl rfl rfl rfl
            obtain ⟨f, g, h⟩ := h
            clear g
            replace h : EV F f 177 z177 42 [some (rf 11 (0)), some (rf 14 (6)), some (.inr (.inl ((v1) + (v5)))), none, some (.inl (Int32.ofInt 0)), none, none, none, none] [.inl (Int32.ofInt 0), rf 11 (0), .inr (.inl ((v10) + (v14))), .inr (.inl ((v1) + (v5)))] σ (w, σ') := h
            replace h := ei_p h rfl rfl rfl rfl
            obtain ⟨f, g, h⟩ := h
            clear g
            replace h : EV F f 177 z177 43 [some (rf 11 (0)), some (rf 14 (6)), some (.inr (.inl ((v1) + (v5)))), none, some (.inl (Int32.ofInt 0)), none, none, none, none] [.inl (Int32.ofInt 2), .inl (Int32.ofInt 0), rf 11 (0), .inr (.inl ((v10) + (v14))), .inr (.inl ((v1) + (v5)))] σ (w, σ') := h
            replace h := bx_L (ei_v (as := [.inl (Int32.ofInt 2), .inl (Int32.ofInt 0)]) h rfl rfl rfl) z145_at rfl
            rcases h with ⟨v18, σ19, r20, f, g, h⟩ | ⟨b, σ19, r20, e⟩
            · skip
              have er20 := ro2_run rfl r20
              rw [er20] at h r20
              clear g
              have p21 := x145 hs.1 r20
              refine Or.inl ⟨v18, p21, ?_⟩
              replace h : EV F f 177 z177 46 [some (rf 11 (0)), some (rf 14 (6)), some (.inr (.inl ((v1) + (v5)))), none, some (.inl (Int32.ofInt 0)), none, none, none, none] [.inr (.inl (v18)), .inr (.inl ((v10) + (v14))), .inr (.inl ((v1) + (v5)))] σ (w, σ') := h
              replace h := ei_p h rfl rfl rfl rfl
              obtain ⟨f, g, h⟩ := h
              clear g
              replace h : EV F f 177 z177 47 [some (rf 11 (0)), some (rf 14 (6)), some (.inr (.inl ((v1) + (v5)))), none, some (.inl (Int32.ofInt 0)), none, none, none, none] [.inr (.inl (((v10) + (v14)) + (v18))), .inr (.inl ((v1) + (v5)))] σ (w, σ') := h
              replace h := ei_p h rfl rfl rfl rfl
              obtain ⟨f, g, h⟩ := h
              clear g
              replace h : EV F f 177 z177 48 [some (rf 11 (0)), some (rf 14 (6)), some (.inr (.inl ((v1) + (v5)))), none, some (.inl (Int32.ofInt 0)), none, none, none, none] [.inr (.inl (((v1) + (v5)) + (((v10) + (v14)) + (v18))))] σ (w, σ') := h
              replace h := ei_p h rfl rfl rfl rfl
              obtain ⟨f, g, h⟩ := h
              clear g
              replace h : EV F f 177 z177 49 [some (rf 11 (0)), some (rf 14 (6)), some (.inr (.inl (((v1) + (v5)) + (((v10) + (v14)) + (v18))))), none, some (.inl (Int32.ofInt 0)), none, none, none, none] [] σ (w, σ') := h
              obtain ⟨n22, e23⟩ : ∃ s, s = ((v1) + (v5)) + (((v10) + (v14)) + (v18)) := ⟨_, rfl⟩
              rw [← e23] at h
              refine ⟨n22, e23, ?_⟩
              replace h : EV F f 177 z177 49 [some (rf 11 (0)), some (rf 14 (6)), some (.inr (.inl (n22))), none, some (.inl (Int32.ofInt 0)), none, none, none, none] [] σ (w, σ') := h
              replace h := ei_p h rfl rfl rfl rfl
              obtain ⟨f, g, h⟩ := h
              clear g
              replace h : EV F f 177 z177 52 [some (rf 11 (0)), some (rf 14 (6)), some (.inr (.inl (n22))), none, some (.inl ((Int32.ofInt 0) + Int32.ofInt 1)), none, none, none, none] [] σ (w, σ') := h
              rw [show (Int32.ofInt 0) + Int32.ofInt 1 = Int32.ofInt 1 from by decide] at h
              replace h : EV F f 177 z177 52 [some (rf 11 (0)), some (rf 14 (6)), some (.inr (.inl (n22))), none, some (.inl (Int32.ofInt 1)), none, none, none, none] [] σ (w, σ') := h
              replace h := ei_p h rfl rfl rfl rfl
              obtain ⟨f, g, h⟩ := h
              clear g
              replace h : EV F f 177 z177 17 [some (rf 11 (0)), some (rf 14 (6)), some (.inr (.inl (n22))), none, some (.inl (Int32.ofInt 1)), none, none, none, none] [] σ (w, σ') := h
              replace h := ei_p h rfl rfl rfl rfl
              obtain ⟨f, g, h⟩ := h
              clear g
              replace h : EV F f 177 z177 19 [some (rf 11 (0)), some (rf 14 (6)), some (.inr (.inl (n22))), none, some (.inl (Int32.ofInt 1)), none, none, none, none] [.inl (Int32.ofInt 1)] σ (w, σ') := h
              replace h := ei_p h rfl rfl rfl rfl
              obtain ⟨f, g, h⟩ := h
              clear g
              replace h : EV F f 177 z177 20 [some (rf 11 (0)), some (rf 14 (6)), some (.inr (.inl (n22))), none, some (.inl (Int32.ofInt 1)), none, none, none, none] [.inl (Int32.ofInt 5), .inl (Int32.ofInt 1)] σ (w, σ') := h
              replace h := ei_c h rfl rfl rfl
              rcases h with ⟨hp24, f, g, h⟩ | ⟨hp24, f, g, h⟩
              · exact absurd (ic_ge.mp hp24) (by decide)
              · skip
                clear g
                replace h : EV F f 177 z177 23 [some (rf 11 (0)), some (rf 14 (6)), some (.inr (.inl (n22))), none, some (.inl (Int32.ofInt 1)), none, none, none, none] [] σ (w, σ') := h
                replace h := ei_p h rfl rfl rfl rfl
                obtain ⟨f, g, h⟩ := h
                clear g
                replace h : EV F f 177 z177 24 [some (rf 11 (0)), some (rf 14 (6)), some (.inr (.inl (n22))), none, some (.inl (Int32.ofInt 1)), none, none, none, none] [.inr (.inl (n22))] σ (w, σ') := h
                replace h := ei_p h rfl rfl rfl rfl
                obtain ⟨f, g, h⟩ := h
                clear g
                replace h : EV F f 177 z177 25 [some (rf 11 (0)), some (rf 14 (6)), some (.inr (.inl (n22))), none, some (.inl (Int32.ofInt 1)), none, none, none, none] [rf 11 (0), .inr (.inl (n22))] σ (w, σ') := h
                replace h := ei_p h rfl rfl rfl rfl
                obtain ⟨f, g, h⟩ := h
                clear g
                replace h : EV F f 177 z177 27 [some (rf 11 (0)), some (rf 14 (6)), some (.inr (.inl (n22))), none, some (.inl (Int32.ofInt 1)), none, none, none, none] [.inl (Int32.ofInt 1), rf 11 (0), .inr (.inl (n22))] σ (w, σ') := h
                replace h := ei_p h rfl rfl rfl rfl
                obtain ⟨f, g, h⟩ := h
                clear g
                replace h : EV F f 177 z177 28 [some (rf 11 (0)), some (rf 14 (6)), some (.inr (.inl (n22))), none, some (.inl (Int32.ofInt 1)), none, none, none, none] [.inl (Int32.ofInt 0), .inl (Int32.ofInt 1), rf 11 (0), .inr (.inl (n22))] σ (w, σ') := h
                replace h := bx_L (ei_v (as := [.inl (Int32.ofInt 0), .inl (Int32.ofInt 1)]) h rfl rfl rfl) z145_at rfl
                rcases h with ⟨v25, σ26, r27, f, g, h⟩ | ⟨b, σ26, r27, e⟩
                · skip
                  have er27 := ro2_run rfl r27
                  rw [er27] at h r27
                  clear g
                  have p28 := x145 hs.1 r27
                  refine Or.inl ⟨v25, p28, ?_⟩
                  replace h : EV F f 177 z177 31 [some (rf 11 (0)), some (rf 14 (6)), some (.inr (.inl (n22))), none, some (.inl (Int32.ofInt 1)), none, none, none, none] [.inr (.inl (v25)), .inr (.inl (n22))] σ (w, σ') := h
                  replace h := ei_p h rfl rfl rfl rfl
                  obtain ⟨f, g, h⟩ := h
                  clear g
                  replace h : EV F f 177 z177 32 [some (rf 11 (0)), some (rf 14 (6)), some (.inr (.inl (n22))), none, some (.inl (Int32.ofInt 1)), none, none, none, none] [rf 11 (0), .inr (.inl (v25)), .inr (.inl (n22))] σ (w, σ') := h
                  replace h := ei_p h rfl rfl rfl rfl
                  obtain ⟨f, g, h⟩ := h
                  clear g
                  replace h : EV F f 177 z177 34 [some (rf 11 (0)), some (rf 14 (6)), some (.inr (.inl (n22))), none, some (.inl (Int32.ofInt 1)), none, none, none, none] [.inl (Int32.ofInt 1), rf 11 (0), .inr (.inl (v25)), .inr (.inl (n22))] σ (w, σ') := h
                  replace h := ei_p h rfl rfl rfl rfl
                  obtain ⟨f, g, h⟩ := h
                  clear g
                  replace h : EV F f 177 z177 35 [some (rf 11 (0)), some (rf 14 (6)), some (.inr (.inl (n22))), none, some (.inl (Int32.ofInt 1)), none, none, none, none] [.inl (Int32.ofInt 1), .inl (Int32.ofInt 1), rf 11 (0), .inr (.inl (v25)), .inr (.inl (n22))] σ (w, σ') := h
                  replace h := bx_L (ei_v (as := [.inl (Int32.ofInt 1), .inl (Int32.ofInt 1)]) h rfl rfl rfl) z145_at rfl
                  rcases h with ⟨v29, σ30, r31, f, g, h⟩ | ⟨b, σ30, r31, e⟩
                  · skip
                    have er31 := ro2_run rfl r31
                    rw [er31] at h r31
                    clear g
                    have p32 := x145 hs.1 r31
                    refine Or.inl ⟨v29, p32, ?_⟩
                    replace h : EV F f 177 z177 38 [some (rf 11 (0)), some (rf 14 (6)), some (.inr (.inl (n22))), none, some (.inl (Int32.ofInt 1)), none, none, none, none] [.inr (.inl (v29)), .inr (.inl (v25)), .inr (.inl (n22))] σ (w, σ') := h
                    replace h := ei_p h rfl rfl rfl rfl
                    obtain ⟨f, g, h⟩ := h
                    clear g
                    replace h : EV F f 177 z177 39 [some (rf 11 (0)), some (rf 14 (6)), some (.inr (.inl (n22))), none, some (.inl (Int32.ofInt 1)), none, none, none, none] [.inr (.inl ((v25) + (v29))), .inr (.inl (n22))] σ (w, σ') := h
                    replace h := ei_p h rfl rfl rfl rfl
                    obtain ⟨f, g, h⟩ := h
                    clear g
                    replace h : EV F f 177 z177 40 [some (rf 11 (0)), some (rf 14 (6)), some (.inr (.inl (n22))), none, some (.inl (Int32.ofInt 1)), none, none, none, none] [rf 11 (0), .inr (.inl ((v25) + (v29))), .inr (.inl (n22))] σ (w, σ') := h
                    replace h := ei_p h rfl rfl rfl rfl
                    obtain ⟨f, g, h⟩ := h
                    clear g
                    replace h : EV F f 177 z177 42 [some (rf 11 (0)), some (rf 14 (6)), some (.inr (.inl (n22))), none, some (.inl (Int32.ofInt 1)), none, none, none, none] [.inl (Int32.ofInt 1), rf 11 (0), .inr (.inl ((v25) + (v29))), .inr (.inl (n22))] σ (w, σ') := h
                    replace h := ei_p h rfl rfl rfl rfl
                    obtain ⟨f, g, h⟩ := h
                    clear g
                    replace h : EV F f 177 z177 43 [some (rf 11 (0)), some (rf 14 (6)), some (.inr (.inl (n22))), none, some (.inl (Int32.ofInt 1)), none, none, none, none] [.inl (Int32.ofInt 2), .inl (Int32.ofInt 1), rf 11 (0), .inr (.inl ((v25) + (v29))), .inr (.inl (n22))] σ (w, σ') := h
                    replace h := bx_L (ei_v (as := [.inl (Int32.ofInt 2), .inl (Int32.ofInt 1)]) h rfl rfl rfl) z145_at rfl
                    rcases h with ⟨v33, σ34, r35, f, g, h⟩ | ⟨b, σ34, r35, e⟩
                    · skip
                      have er35 := ro2_run rfl r35
                      rw [er35] at h r35
                      clear g
                      have p36 := x145 hs.1 r35
                      refine Or.inl ⟨v33, p36, ?_⟩
                      replace h : EV F f 177 z177 46 [some (rf 11 (0)), some (rf 14 (6)), some (.inr (.inl (n22))), none, some (.inl (Int32.ofInt 1)), none, none, none, none] [.inr (.inl (v33)), .inr (.inl ((v25) + (v29))), .inr (.inl (n22))] σ (w, σ') := h
                      replace h := ei_p h rfl rfl rfl rfl
                      obtain ⟨f, g, h⟩ := h
                      clear g
                      replace h : EV F f 177 z177 47 [some (rf 11 (0)), some (rf 14 (6)), some (.inr (.inl (n22))), none, some (.inl (Int32.ofInt 1)), none, none, none, none] [.inr (.inl (((v25) + (v29)) + (v33))), .inr (.inl (n22))] σ (w, σ') := h
                      replace h := ei_p h rfl rfl rfl rfl
                      obtain ⟨f, g, h⟩ := h
                      clear g
                      replace h : EV F f 177 z177 48 [some (rf 11 (0)), some (rf 14 (6)), some (.inr (.inl (n22))), none, some (.inl (Int32.ofInt 1)), none, none, none, none] [.inr (.inl ((n22) + (((v25) + (v29)) + (v33))))] σ (w, σ') := h
                      replace h := ei_p h rfl rfl rfl rfl
                      obtain ⟨f, g, h⟩ := h
                      clear g
                      replace h : EV F f 177 z177 49 [some (rf 11 (0)), some (rf 14 (6)), some (.inr (.inl ((n22) + (((v25) + (v29)) + (v33))))), none, some (.inl (Int32.ofInt 1)), none, none, none, none] [] σ (w, σ') := h
                      obtain ⟨n37, e38⟩ : ∃ s, s = (n22) + (((v25) + (v29)) + (v33)) := ⟨_, rfl⟩
                      rw [← e38] at h
                      refine ⟨n37, e38, ?_⟩
                      replace h : EV F f 177 z177 49 [some (rf 11 (0)), some (rf 14 (6)), some (.inr (.inl (n37))), none, some (.inl (Int32.ofInt 1)), none, none, none, none] [] σ (w, σ') := h
                      replace h := ei_p h rfl rfl rfl rfl
                      obtain ⟨f, g, h⟩ := h
                      clear g
                      replace h : EV F f 177 z177 52 [some (rf 11 (0)), some (rf 14 (6)), some (.inr (.inl (n37))), none, some (.inl ((Int32.ofInt 1) + Int32.ofInt 1)), none, none, none, none] [] σ (w, σ') := h
                      rw [show (Int32.ofInt 1) + Int32.ofInt 1 = Int32.ofInt 2 from by decide] at h
                      replace h : EV F f 177 z177 52 [some (rf 11 (0)), some (rf 14 (6)), some (.inr (.inl (n37))), none, some (.inl (Int32.ofInt 2)), none, none, none, none] [] σ (w, σ') := h
                      replace h := ei_p h rfl rfl rfl rfl
                      obtain ⟨f, g, h⟩ := h
                      clear g
                      replace h : EV F f 177 z177 17 [some (rf 11 (0)), some (rf 14 (6)), some (.inr (.inl (n37))), none, some (.inl (Int32.ofInt 2)), none, none, none, none] [] σ (w, σ') := h
                      replace h := ei_p h rfl rfl rfl rfl
                      obtain ⟨f, g, h⟩ := h
                      clear g
                      replace h : EV F f 177 z177 19 [some (rf 11 (0)), some (rf 14 (6)), some (.inr (.inl (n37))), none, some (.inl (Int32.ofInt 2)), none, none, none, none] [.inl (Int32.ofInt 2)] σ (w, σ') := h
                      replace h := ei_p h rfl rfl rfl rfl
                      obtain ⟨f, g, h⟩ := h
                      clear g
                      replace h : EV F f 177 z177 20 [some (rf 11 (0)), some (rf 14 (6)), some (.inr (.inl (n37))), none, some (.inl (Int32.ofInt 2)), none, none, none, none] [.inl (Int32.ofInt 5), .inl (Int32.ofInt 2)] σ (w, σ') := h
                      replace h := ei_c h rfl rfl rfl
                      rcases h with ⟨hp39, f, g, h⟩ | ⟨hp39, f, g, h⟩
                      · exact absurd (ic_ge.mp hp39) (by decide)
                      · skip
                        clear g
                        replace h : EV F f 177 z177 23 [some (rf 11 (0)), some (rf 14 (6)), some (.inr (.inl (n37))), none, some (.inl (Int32.ofInt 2)), none, none, none, none] [] σ (w, σ') := h
                        replace h := ei_p h rfl rfl rfl rfl
                        obtain ⟨f, g, h⟩ := h
                        clear g
                        replace h : EV F f 177 z177 24 [some (rf 11 (0)), some (rf 14 (6)), some (.inr (.inl (n37))), none, some (.inl (Int32.ofInt 2)), none, none, none, none] [.inr (.inl (n37))] σ (w, σ') := h
                        replace h := ei_p h rfl rfl rfl rfl
                        obtain ⟨f, g, h⟩ := h
                        clear g
                        replace h : EV F f 177 z177 25 [some (rf 11 (0)), some (rf 14 (6)), some (.inr (.inl (n37))), none, some (.inl (Int32.ofInt 2)), none, none, none, none] [rf 11 (0), .inr (.inl (n37))] σ (w, σ') := h
                        replace h := ei_p h rfl rfl rfl rfl
                        obtain ⟨f, g, h⟩ := h
                        clear g
                        replace h : EV F f 177 z177 27 [some (rf 11 (0)), some (rf 14 (6)), some (.inr (.inl (n37))), none, some (.inl (Int32.ofInt 2)), none, none, none, none] [.inl (Int32.ofInt 2), rf 11 (0), .inr (.inl (n37))] σ (w, σ') := h
                        replace h := ei_p h rfl rfl rfl rfl
                        obtain ⟨f, g, h⟩ := h
                        clear g
                        replace h : EV F f 177 z177 28 [some (rf 11 (0)), some (rf 14 (6)), some (.inr (.inl (n37))), none, some (.inl (Int32.ofInt 2)), none, none, none, none] [.inl (Int32.ofInt 0), .inl (Int32.ofInt 2), rf 11 (0), .inr (.inl (n37))] σ (w, σ') := h
                        replace h := bx_L (ei_v (as := [.inl (Int32.ofInt 0), .inl (Int32.ofInt 2)]) h rfl rfl rfl) z145_at rfl
                        rcases h with ⟨v40, σ41, r42, f, g, h⟩ | ⟨b, σ41, r42, e⟩
                        · skip
                          have er42 := ro2_run rfl r42
                          rw [er42] at h r42
                          clear g
                          have p43 := x145 hs.1 r42
                          refine Or.inl ⟨v40, p43, ?_⟩
                          replace h : EV F f 177 z177 31 [some (rf 11 (0)), some (rf 14 (6)), some (.inr (.inl (n37))), none, some (.inl (Int32.ofInt 2)), none, none, none, none] [.inr (.inl (v40)), .inr (.inl (n37))] σ (w, σ') := h
                          replace h := ei_p h rfl rfl rfl rfl
                          obtain ⟨f, g, h⟩ := h
                          clear g
                          replace h : EV F f 177 z177 32 [some (rf 11 (0)), some (rf 14 (6)), some (.inr (.inl (n37))), none, some (.inl (Int32.ofInt 2)), none, none, none, none] [rf 11 (0), .inr (.inl (v40)), .inr (.inl (n37))] σ (w, σ') := h
                          replace h := ei_p h rfl rfl rfl rfl
                          obtain ⟨f, g, h⟩ := h
                          clear g
                          replace h : EV F f 177 z177 34 [some (rf 11 (0)), some (rf 14 (6)), some (.inr (.inl (n37))), none, some (.inl (Int32.ofInt 2)), none, none, none, none] [.inl (Int32.ofInt 2), rf 11 (0), .inr (.inl (v40)), .inr (.inl (n37))] σ (w, σ') := h
                          replace h := ei_p h rfl rfl rfl rfl
                          obtain ⟨f, g, h⟩ := h
                          clear g
                          replace h : EV F f 177 z177 35 [some (rf 11 (0)), some (rf 14 (6)), some (.inr (.inl (n37))), none, some (.inl (Int32.ofInt 2)), none, none, none, none] [.inl (Int32.ofInt 1), .inl (Int32.ofInt 2), rf 11 (0), .inr (.inl (v40)), .inr (.inl (n37))] σ (w, σ') := h
                          replace h := bx_L (ei_v (as := [.inl (Int32.ofInt 1), .inl (Int32.ofInt 2)]) h rfl rfl rfl) z145_at rfl
                          rcases h with ⟨v44, σ45, r46, f, g, h⟩ | ⟨b, σ45, r46, e⟩
                          · skip
                            have er46 := ro2_run rfl r46
                            rw [er46] at h r46
                            clear g
                            have p47 := x145 hs.1 r46
                            refine Or.inl ⟨v44, p47, ?_⟩
                            replace h : EV F f 177 z177 38 [some (rf 11 (0)), some (rf 14 (6)), some (.inr (.inl (n37))), none, some (.inl (Int32.ofInt 2)), none, none, none, none] [.inr (.inl (v44)), .inr (.inl (v40)), .inr (.inl (n37))] σ (w, σ') := h
                            replace h := ei_p h rfl rfl rfl rfl
                            obtain ⟨f, g, h⟩ := h
                            clear g
                            replace h : EV F f 177 z177 39 [some (rf 11 (0)), some (rf 14 (6)), some (.inr (.inl (n37))), none, some (.inl (Int32.ofInt 2)), none, none, none, none] [.inr (.inl ((v40) + (v44))), .inr (.inl (n37))] σ (w, σ') := h
                            replace h := ei_p h rfl rfl rfl rfl
                            obtain ⟨f, g, h⟩ := h
                            clear g
                            replace h : EV F f 177 z177 40 [some (rf 11 (0)), some (rf 14 (6)), some (.inr (.inl (n37))), none, some (.inl (Int32.ofInt 2)), none, none, none, none] [rf 11 (0), .inr (.inl ((v40) + (v44))), .inr (.inl (n37))] σ (w, σ') := h
                            replace h := ei_p h rfl rfl rfl rfl
                            obtain ⟨f, g, h⟩ := h
                            clear g
                            replace h : EV F f 177 z177 42 [some (rf 11 (0)), some (rf 14 (6)), some (.inr (.inl (n37))), none, some (.inl (Int32.ofInt 2)), none, none, none, none] [.inl (Int32.ofInt 2), rf 11 (0), .inr (.inl ((v40) + (v44))), .inr (.inl (n37))] σ (w, σ') := h
                            replace h := ei_p h rfl rfl rfl rfl
                            obtain ⟨f, g, h⟩ := h
                            clear g
                            replace h : EV F f 177 z177 43 [some (rf 11 (0)), some (rf 14 (6)), some (.inr (.inl (n37))), none, some (.inl (Int32.ofInt 2)), none, none, none, none] [.inl (Int32.ofInt 2), .inl (Int32.ofInt 2), rf 11 (0), .inr (.inl ((v40) + (v44))), .inr (.inl (n37))] σ (w, σ') := h
                            replace h := bx_L (ei_v (as := [.inl (Int32.ofInt 2), .inl (Int32.ofInt 2)]) h rfl rfl rfl) z145_at rfl
                            rcases h with ⟨v48, σ49, r50, f, g, h⟩ | ⟨b, σ49, r50, e⟩
                            · skip
                              have er50 := ro2_run rfl r50
                              rw [er50] at h r50
                              clear g
                              have p51 := x145 hs.1 r50
                              refine Or.inl ⟨v48, p51, ?_⟩
                              replace h : EV F f 177 z177 46 [some (rf 11 (0)), some (rf 14 (6)), some (.inr (.inl (n37))), none, some (.inl (Int32.ofInt 2)), none, none, none, none] [.inr (.inl (v48)), .inr (.inl ((v40) + (v44))), .inr (.inl (n37))] σ (w, σ') := h
                              replace h := ei_p h rfl rfl rfl rfl
                              obtain ⟨f, g, h⟩ := h
                              clear g
                              replace h : EV F f 177 z177 47 [some (rf 11 (0)), some (rf 14 (6)), some (.inr (.inl (n37))), none, some (.inl (Int32.ofInt 2)), none, none, none, none] [.inr (.inl (((v40) + (v44)) + (v48))), .inr (.inl (n37))] σ (w, σ') := h
                              replace h := ei_p h rfl rfl rfl rfl
                              obtain ⟨f, g, h⟩ := h
                              clear g
                              replace h : EV F f 177 z177 48 [some (rf 11 (0)), some (rf 14 (6)), some (.inr (.inl (n37))), none, some (.inl (Int32.ofInt 2)), none, none, none, none] [.inr (.inl ((n37) + (((v40) + (v44)) + (v48))))] σ (w, σ') := h
                              replace h := ei_p h rfl rfl rfl rfl
                              obtain ⟨f, g, h⟩ := h
                              clear g
                              replace h : EV F f 177 z177 49 [some (rf 11 (0)), some (rf 14 (6)), some (.inr (.inl ((n37) + (((v40) + (v44)) + (v48))))), none, some (.inl (Int32.ofInt 2)), none, none, none, none] [] σ (w, σ') := h
                              obtain ⟨n52, e53⟩ : ∃ s, s = (n37) + (((v40) + (v44)) + (v48)) := ⟨_, rfl⟩
                              rw [← e53] at h
                              refine ⟨n52, e53, ?_⟩
                              replace h : EV F f 177 z177 49 [some (rf 11 (0)), some (rf 14 (6)), some (.inr (.inl (n52))), none, some (.inl (Int32.ofInt 2)), none, none, none, none] [] σ (w, σ') := h
                              replace h := ei_p h rfl rfl rfl rfl
                              obtain ⟨f, g, h⟩ := h
                              clear g
                              replace h : EV F f 177 z177 52 [some (rf 11 (0)), some (rf 14 (6)), some (.inr (.inl (n52))), none, some (.inl ((Int32.ofInt 2) + Int32.ofInt 1)), none, none, none, none] [] σ (w, σ') := h
                              rw [show (Int32.ofInt 2) + Int32.ofInt 1 = Int32.ofInt 3 from by decide] at h
                              replace h : EV F f 177 z177 52 [some (rf 11 (0)), some (rf 14 (6)), some (.inr (.inl (n52))), none, some (.inl (Int32.ofInt 3)), none, none, none, none] [] σ (w, σ') := h
                              replace h := ei_p h rfl rfl rfl rfl
                              obtain ⟨f, g, h⟩ := h
                              clear g
                              replace h : EV F f 177 z177 17 [some (rf 11 (0)), some (rf 14 (6)), some (.inr (.inl (n52))), none, some (.inl (Int32.ofInt 3)), none, none, none, none] [] σ (w, σ') := h
                              replace h := ei_p h rfl rfl rfl rfl
                              obtain ⟨f, g, h⟩ := h
                              clear g
                              replace h : EV F f 177 z177 19 [some (rf 11 (0)), some (rf 14 (6)), some (.inr (.inl (n52))), none, some (.inl (Int32.ofInt 3)), none, none, none, none] [.inl (Int32.ofInt 3)] σ (w, σ') := h
                              replace h := ei_p h rfl rfl rfl rfl
                              obtain ⟨f, g, h⟩ := h
                              clear g
                              replace h : EV F f 177 z177 20 [some (rf 11 (0)), some (rf 14 (6)), some (.inr (.inl (n52))), none, some (.inl (Int32.ofInt 3)), none, none, none, none] [.inl (Int32.ofInt 5), .inl (Int32.ofInt 3)] σ (w, σ') := h
                              replace h := ei_c h rfl rfl rfl
                              rcases h with ⟨hp54, f, g, h⟩ | ⟨hp54, f, g, h⟩
                              · exact absurd (ic_ge.mp hp54) (by decide)
                              · skip
                                clear g
                                replace h : EV F f 177 z177 23 [some (rf 11 (0)), some (rf 14 (6)), some (.inr (.inl (n52))), none, some (.inl (Int32.ofInt 3)), none, none, none, none] [] σ (w, σ') := h
                                replace h := ei_p h rfl rfl rfl rfl
                                obtain ⟨f, g, h⟩ := h
                                clear g
                                replace h : EV F f 177 z177 24 [some (rf 11 (0)), some (rf 14 (6)), some (.inr (.inl (n52))), none, some (.inl (Int32.ofInt 3)), none, none, none, none] [.inr (.inl (n52))] σ (w, σ') := h
                                replace h := ei_p h rfl rfl rfl rfl
                                obtain ⟨f, g, h⟩ := h
                                clear g
                                replace h : EV F f 177 z177 25 [some (rf 11 (0)), some (rf 14 (6)), some (.inr (.inl (n52))), none, some (.inl (Int32.ofInt 3)), none, none, none, none] [rf 11 (0), .inr (.inl (n52))] σ (w, σ') := h
                                replace h := ei_p h rfl rfl rfl rfl
                                obtain ⟨f, g, h⟩ := h
                                clear g
                                replace h : EV F f 177 z177 27 [some (rf 11 (0)), some (rf 14 (6)), some (.inr (.inl (n52))), none, some (.inl (Int32.ofInt 3)), none, none, none, none] [.inl (Int32.ofInt 3), rf 11 (0), .inr (.inl (n52))] σ (w, σ') := h
                                replace h := ei_p h rfl rfl rfl rfl
                                obtain ⟨f, g, h⟩ := h
                                clear g
                                replace h : EV F f 177 z177 28 [some (rf 11 (0)), some (rf 14 (6)), some (.inr (.inl (n52))), none, some (.inl (Int32.ofInt 3)), none, none, none, none] [.inl (Int32.ofInt 0), .inl (Int32.ofInt 3), rf 11 (0), .inr (.inl (n52))] σ (w, σ') := h
                                replace h := bx_L (ei_v (as := [.inl (Int32.ofInt 0), .inl (Int32.ofInt 3)]) h rfl rfl rfl) z145_at rfl
                                rcases h with ⟨v55, σ56, r57, f, g, h⟩ | ⟨b, σ56, r57, e⟩
                                · skip
                                  have er57 := ro2_run rfl r57
                                  rw [er57] at h r57
                                  clear g
                                  have p58 := x145 hs.1 r57
                                  refine Or.inl ⟨v55, p58, ?_⟩
                                  replace h : EV F f 177 z177 31 [some (rf 11 (0)), some (rf 14 (6)), some (.inr (.inl (n52))), none, some (.inl (Int32.ofInt 3)), none, none, none, none] [.inr (.inl (v55)), .inr (.inl (n52))] σ (w, σ') := h
                                  replace h := ei_p h rfl rfl rfl rfl
                                  obtain ⟨f, g, h⟩ := h
                                  clear g
                                  replace h : EV F f 177 z177 32 [some (rf 11 (0)), some (rf 14 (6)), some (.inr (.inl (n52))), none, some (.inl (Int32.ofInt 3)), none, none, none, none] [rf 11 (0), .inr (.inl (v55)), .inr (.inl (n52))] σ (w, σ') := h
                                  replace h := ei_p h rfl rfl rfl rfl
                                  obtain ⟨f, g, h⟩ := h
                                  clear g
                                  replace h : EV F f 177 z177 34 [some (rf 11 (0)), some (rf 14 (6)), some (.inr (.inl (n52))), none, some (.inl (Int32.ofInt 3)), none, none, none, none] [.inl (Int32.ofInt 3), rf 11 (0), .inr (.inl (v55)), .inr (.inl (n52))] σ (w, σ') := h
                                  replace h := ei_p h rfl rfl rfl rfl
                                  obtain ⟨f, g, h⟩ := h
                                  clear g
                                  replace h : EV F f 177 z177 35 [some (rf 11 (0)), some (rf 14 (6)), some (.inr (.inl (n52))), none, some (.inl (Int32.ofInt 3)), none, none, none, none] [.inl (Int32.ofInt 1), .inl (Int32.ofInt 3), rf 11 (0), .inr (.inl (v55)), .inr (.inl (n52))] σ (w, σ') := h
                                  replace h := bx_L (ei_v (as := [.inl (Int32.ofInt 1), .inl (Int32.ofInt 3)]) h rfl rfl rfl) z145_at rfl
                                  rcases h with ⟨v59, σ60, r61, f, g, h⟩ | ⟨b, σ60, r61, e⟩
                                  · skip
                                    have er61 := ro2_run rfl r61
                                    rw [er61] at h r61
                                    clear g
                                    have p62 := x145 hs.1 r61
                                    refine Or.inl ⟨v59, p62, ?_⟩
                                    replace h : EV F f 177 z177 38 [some (rf 11 (0)), some (rf 14 (6)), some (.inr (.inl (n52))), none, some (.inl (Int32.ofInt 3)), none, none, none, none] [.inr (.inl (v59)), .inr (.inl (v55)), .inr (.inl (n52))] σ (w, σ') := h
                                    replace h := ei_p h rfl rfl rfl rfl
                                    obtain ⟨f, g, h⟩ := h
                                    clear g
                                    replace h : EV F f 177 z177 39 [some (rf 11 (0)), some (rf 14 (6)), some (.inr (.inl (n52))), none, some (.inl (Int32.ofInt 3)), none, none, none, none] [.inr (.inl ((v55) + (v59))), .inr (.inl (n52))] σ (w, σ') := h
                                    replace h := ei_p h rfl rfl rfl rfl
                                    obtain ⟨f, g, h⟩ := h
                                    clear g
                                    replace h : EV F f 177 z177 40 [some (rf 11 (0)), some (rf 14 (6)), some (.inr (.inl (n52))), none, some (.inl (Int32.ofInt 3)), none, none, none, none] [rf 11 (0), .inr (.inl ((v55) + (v59))), .inr (.inl (n52))] σ (w, σ') := h
                                    replace h := ei_p h rfl rfl rfl rfl
                                    obtain ⟨f, g, h⟩ := h
                                    clear g
                                    replace h : EV F f 177 z177 42 [some (rf 11 (0)), some (rf 14 (6)), some (.inr (.inl (n52))), none, some (.inl (Int32.ofInt 3)), none, none, none, none] [.inl (Int32.ofInt 3), rf 11 (0), .inr (.inl ((v55) + (v59))), .inr (.inl (n52))] σ (w, σ') := h
                                    replace h := ei_p h rfl rfl rfl rfl
                                    obtain ⟨f, g, h⟩ := h
                                    clear g
                                    replace h : EV F f 177 z177 43 [some (rf 11 (0)), some (rf 14 (6)), some (.inr (.inl (n52))), none, some (.inl (Int32.ofInt 3)), none, none, none, none] [.inl (Int32.ofInt 2), .inl (Int32.ofInt 3), rf 11 (0), .inr (.inl ((v55) + (v59))), .inr (.inl (n52))] σ (w, σ') := h
                                    replace h := bx_L (ei_v (as := [.inl (Int32.ofInt 2), .inl (Int32.ofInt 3)]) h rfl rfl rfl) z145_at rfl
                                    rcases h with ⟨v63, σ64, r65, f, g, h⟩ | ⟨b, σ64, r65, e⟩
                                    · skip
                                      have er65 := ro2_run rfl r65
                                      rw [er65] at h r65
                                      clear g
                                      have p66 := x145 hs.1 r65
                                      refine Or.inl ⟨v63, p66, ?_⟩
                                      replace h : EV F f 177 z177 46 [some (rf 11 (0)), some (rf 14 (6)), some (.inr (.inl (n52))), none, some (.inl (Int32.ofInt 3)), none, none, none, none] [.inr (.inl (v63)), .inr (.inl ((v55) + (v59))), .inr (.inl (n52))] σ (w, σ') := h
                                      replace h := ei_p h rfl rfl rfl rfl
                                      obtain ⟨f, g, h⟩ := h
                                      clear g
                                      replace h : EV F f 177 z177 47 [some (rf 11 (0)), some (rf 14 (6)), some (.inr (.inl (n52))), none, some (.inl (Int32.ofInt 3)), none, none, none, none] [.inr (.inl (((v55) + (v59)) + (v63))), .inr (.inl (n52))] σ (w, σ') := h
                                      replace h := ei_p h rfl rfl rfl rfl
                                      obtain ⟨f, g, h⟩ := h
                                      clear g
                                      replace h : EV F f 177 z177 48 [some (rf 11 (0)), some (rf 14 (6)), some (.inr (.inl (n52))), none, some (.inl (Int32.ofInt 3)), none, none, none, none] [.inr (.inl ((n52) + (((v55) + (v59)) + (v63))))] σ (w, σ') := h
                                      replace h := ei_p h rfl rfl rfl rfl
                                      obtain ⟨f, g, h⟩ := h
                                      clear g
                                      replace h : EV F f 177 z177 49 [some (rf 11 (0)), some (rf 14 (6)), some (.inr (.inl ((n52) + (((v55) + (v59)) + (v63))))), none, some (.inl (Int32.ofInt 3)), none, none, none, none] [] σ (w, σ') := h
                                      obtain ⟨n67, e68⟩ : ∃ s, s = (n52) + (((v55) + (v59)) + (v63)) := ⟨_, rfl⟩
                                      rw [← e68] at h
                                      refine ⟨n67, e68, ?_⟩
                                      replace h : EV F f 177 z177 49 [some (rf 11 (0)), some (rf 14 (6)), some (.inr (.inl (n67))), none, some (.inl (Int32.ofInt 3)), none, none, none, none] [] σ (w, σ') := h
                                      replace h := ei_p h rfl rfl rfl rfl
                                      obtain ⟨f, g, h⟩ := h
                                      clear g
                                      replace h : EV F f 177 z177 52 [some (rf 11 (0)), some (rf 14 (6)), some (.inr (.inl (n67))), none, some (.inl ((Int32.ofInt 3) + Int32.ofInt 1)), none, none, none, none] [] σ (w, σ') := h
                                      rw [show (Int32.ofInt 3) + Int32.ofInt 1 = Int32.ofInt 4 from by decide] at h
                                      replace h : EV F f 177 z177 52 [some (rf 11 (0)), some (rf 14 (6)), some (.inr (.inl (n67))), none, some (.inl (Int32.ofInt 4)), none, none, none, none] [] σ (w, σ') := h
                                      replace h := ei_p h rfl rfl rfl rfl
                                      obtain ⟨f, g, h⟩ := h
                                      clear g
                                      replace h : EV F f 177 z177 17 [some (rf 11 (0)), some (rf 14 (6)), some (.inr (.inl (n67))), none, some (.inl (Int32.ofInt 4)), none, none, none, none] [] σ (w, σ') := h
                                      replace h := ei_p h rfl rfl rfl rfl
                                      obtain ⟨f, g, h⟩ := h
                                      clear g
                                      replace h : EV F f 177 z177 19 [some (rf 11 (0)), some (rf 14 (6)), some (.inr (.inl (n67))), none, some (.inl (Int32.ofInt 4)), none, none, none, none] [.inl (Int32.ofInt 4)] σ (w, σ') := h
                                      replace h := ei_p h rfl rfl rfl rfl
                                      obtain ⟨f, g, h⟩ := h
                                      clear g
                                      replace h : EV F f 177 z177 20 [some (rf 11 (0)), some (rf 14 (6)), some (.inr (.inl (n67))), none, some (.inl (Int32.ofInt 4)), none, none, none, none] [.inl (Int32.ofInt 5), .inl (Int32.ofInt 4)] σ (w, σ') := h
                                      replace h := ei_c h rfl rfl rfl
                                      rcases h with ⟨hp69, f, g, h⟩ | ⟨hp69, f, g, h⟩
                                      · exact absurd (ic_ge.mp hp69) (by decide)
                                      · skip
                                        clear g
                                        replace h : EV F f 177 z177 23 [some (rf 11 (0)), some (rf 14 (6)), some (.inr (.inl (n67))), none, some (.inl (Int32.ofInt 4)), none, none, none, none] [] σ (w, σ') := h
                                        replace h := ei_p h rfl rfl rfl rfl
                                        obtain ⟨f, g, h⟩ := h
                                        clear g
                                        replace h : EV F f 177 z177 24 [some (rf 11 (0)), some (rf 14 (6)), some (.inr (.inl (n67))), none, some (.inl (Int32.ofInt 4)), none, none, none, none] [.inr (.inl (n67))] σ (w, σ') := h
                                        replace h := ei_p h rfl rfl rfl rfl
                                        obtain ⟨f, g, h⟩ := h
                                        clear g
                                        replace h : EV F f 177 z177 25 [some (rf 11 (0)), some (rf 14 (6)), some (.inr (.inl (n67))), none, some (.inl (Int32.ofInt 4)), none, none, none, none] [rf 11 (0), .inr (.inl (n67))] σ (w, σ') := h
                                        replace h := ei_p h rfl rfl rfl rfl
                                        obtain ⟨f, g, h⟩ := h
                                        clear g
                                        replace h : EV F f 177 z177 27 [some (rf 11 (0)), some (rf 14 (6)), some (.inr (.inl (n67))), none, some (.inl (Int32.ofInt 4)), none, none, none, none] [.inl (Int32.ofInt 4), rf 11 (0), .inr (.inl (n67))] σ (w, σ') := h
                                        replace h := ei_p h rfl rfl rfl rfl
                                        obtain ⟨f, g, h⟩ := h
                                        clear g
                                        replace h : EV F f 177 z177 28 [some (rf 11 (0)), some (rf 14 (6)), some (.inr (.inl (n67))), none, some (.inl (Int32.ofInt 4)), none, none, none, none] [.inl (Int32.ofInt 0), .inl (Int32.ofInt 4), rf 11 (0), .inr (.inl (n67))] σ (w, σ') := h
                                        replace h := bx_L (ei_v (as := [.inl (Int32.ofInt 0), .inl (Int32.ofInt 4)]) h rfl rfl rfl) z145_at rfl
                                        rcases h with ⟨v70, σ71, r72, f, g, h⟩ | ⟨b, σ71, r72, e⟩
                                        · skip
                                          have er72 := ro2_run rfl r72
                                          rw [er72] at h r72
                                          clear g
                                          have p73 := x145 hs.1 r72
                                          refine Or.inl ⟨v70, p73, ?_⟩
                                          replace h : EV F f 177 z177 31 [some (rf 11 (0)), some (rf 14 (6)), some (.inr (.inl (n67))), none, some (.inl (Int32.ofInt 4)), none, none, none, none] [.inr (.inl (v70)), .inr (.inl (n67))] σ (w, σ') := h
                                          replace h := ei_p h rfl rfl rfl rfl
                                          obtain ⟨f, g, h⟩ := h
                                          clear g
                                          replace h : EV F f 177 z177 32 [some (rf 11 (0)), some (rf 14 (6)), some (.inr (.inl (n67))), none, some (.inl (Int32.ofInt 4)), none, none, none, none] [rf 11 (0), .inr (.inl (v70)), .inr (.inl (n67))] σ (w, σ') := h
                                          replace h := ei_p h rfl rfl rfl rfl
                                          obtain ⟨f, g, h⟩ := h
                                          clear g
                                          replace h : EV F f 177 z177 34 [some (rf 11 (0)), some (rf 14 (6)), some (.inr (.inl (n67))), none, some (.inl (Int32.ofInt 4)), none, none, none, none] [.inl (Int32.ofInt 4), rf 11 (0), .inr (.inl (v70)), .inr (.inl (n67))] σ (w, σ') := h
                                          replace h := ei_p h rfl rfl rfl rfl
                                          obtain ⟨f, g, h⟩ := h
                                          clear g
                                          replace h : EV F f 177 z177 35 [some (rf 11 (0)), some (rf 14 (6)), some (.inr (.inl (n67))), none, some (.inl (Int32.ofInt 4)), none, none, none, none] [.inl (Int32.ofInt 1), .inl (Int32.ofInt 4), rf 11 (0), .inr (.inl (v70)), .inr (.inl (n67))] σ (w, σ') := h
                                          replace h := bx_L (ei_v (as := [.inl (Int32.ofInt 1), .inl (Int32.ofInt 4)]) h rfl rfl rfl) z145_at rfl
                                          rcases h with ⟨v74, σ75, r76, f, g, h⟩ | ⟨b, σ75, r76, e⟩
                                          · skip
                                            have er76 := ro2_run rfl r76
                                            rw [er76] at h r76
                                            clear g
                                            have p77 := x145 hs.1 r76
                                            refine Or.inl ⟨v74, p77, ?_⟩
                                            replace h : EV F f 177 z177 38 [some (rf 11 (0)), some (rf 14 (6)), some (.inr (.inl (n67))), none, some (.inl (Int32.ofInt 4)), none, none, none, none] [.inr (.inl (v74)), .inr (.inl (v70)), .inr (.inl (n67))] σ (w, σ') := h
                                            replace h := ei_p h rfl rfl rfl rfl
                                            obtain ⟨f, g, h⟩ := h
                                            clear g
                                            replace h : EV F f 177 z177 39 [some (rf 11 (0)), some (rf 14 (6)), some (.inr (.inl (n67))), none, some (.inl (Int32.ofInt 4)), none, none, none, none] [.inr (.inl ((v70) + (v74))), .inr (.inl (n67))] σ (w, σ') := h
                                            replace h := ei_p h rfl rfl rfl rfl
                                            obtain ⟨f, g, h⟩ := h
                                            clear g
                                            replace h : EV F f 177 z177 40 [some (rf 11 (0)), some (rf 14 (6)), some (.inr (.inl (n67))), none, some (.inl (Int32.ofInt 4)), none, none, none, none] [rf 11 (0), .inr (.inl ((v70) + (v74))), .inr (.inl (n67))] σ (w, σ') := h
                                            replace h := ei_p h rfl rfl rfl rfl
                                            obtain ⟨f, g, h⟩ := h
                                            clear g
                                            replace h : EV F f 177 z177 42 [some (rf 11 (0)), some (rf 14 (6)), some (.inr (.inl (n67))), none, some (.inl (Int32.ofInt 4)), none, none, none, none] [.inl (Int32.ofInt 4), rf 11 (0), .inr (.inl ((v70) + (v74))), .inr (.inl (n67))] σ (w, σ') := h
                                            replace h := ei_p h rfl rfl rfl rfl
                                            obtain ⟨f, g, h⟩ := h
                                            clear g
                                            replace h : EV F f 177 z177 43 [some (rf 11 (0)), some (rf 14 (6)), some (.inr (.inl (n67))), none, some (.inl (Int32.ofInt 4)), none, none, none, none] [.inl (Int32.ofInt 2), .inl (Int32.ofInt 4), rf 11 (0), .inr (.inl ((v70) + (v74))), .inr (.inl (n67))] σ (w, σ') := h
                                            replace h := bx_L (ei_v (as := [.inl (Int32.ofInt 2), .inl (Int32.ofInt 4)]) h rfl rfl rfl) z145_at rfl
                                            rcases h with ⟨v78, σ79, r80, f, g, h⟩ | ⟨b, σ79, r80, e⟩
                                            · skip
                                              have er80 := ro2_run rfl r80
                                              rw [er80] at h r80
                                              clear g
                                              have p81 := x145 hs.1 r80
                                              refine Or.inl ⟨v78, p81, ?_⟩
                                              replace h : EV F f 177 z177 46 [some (rf 11 (0)), some (rf 14 (6)), some (.inr (.inl (n67))), none, some (.inl (Int32.ofInt 4)), none, none, none, none] [.inr (.inl (v78)), .inr (.inl ((v70) + (v74))), .inr (.inl (n67))] σ (w, σ') := h
                                              replace h := ei_p h rfl rfl rfl rfl
                                              obtain ⟨f, g, h⟩ := h
                                              clear g
                                              replace h : EV F f 177 z177 47 [some (rf 11 (0)), some (rf 14 (6)), some (.inr (.inl (n67))), none, some (.inl (Int32.ofInt 4)), none, none, none, none] [.inr (.inl (((v70) + (v74)) + (v78))), .inr (.inl (n67))] σ (w, σ') := h
                                              replace h := ei_p h rfl rfl rfl rfl
                                              obtain ⟨f, g, h⟩ := h
                                              clear g
                                              replace h : EV F f 177 z177 48 [some (rf 11 (0)), some (rf 14 (6)), some (.inr (.inl (n67))), none, some (.inl (Int32.ofInt 4)), none, none, none, none] [.inr (.inl ((n67) + (((v70) + (v74)) + (v78))))] σ (w, σ') := h
                                              replace h := ei_p h rfl rfl rfl rfl
                                              obtain ⟨f, g, h⟩ := h
                                              clear g
                                              replace h : EV F f 177 z177 49 [some (rf 11 (0)), some (rf 14 (6)), some (.inr (.inl ((n67) + (((v70) + (v74)) + (v78))))), none, some (.inl (Int32.ofInt 4)), none, none, none, none] [] σ (w, σ') := h
                                              obtain ⟨n82, e83⟩ : ∃ s, s = (n67) + (((v70) + (v74)) + (v78)) := ⟨_, rfl⟩
                                              rw [← e83] at h
                                              refine ⟨n82, e83, ?_⟩
                                              replace h : EV F f 177 z177 49 [some (rf 11 (0)), some (rf 14 (6)), some (.inr (.inl (n82))), none, some (.inl (Int32.ofInt 4)), none, none, none, none] [] σ (w, σ') := h
                                              replace h := ei_p h rfl rfl rfl rfl
                                              obtain ⟨f, g, h⟩ := h
                                              clear g
                                              replace h : EV F f 177 z177 52 [some (rf 11 (0)), some (rf 14 (6)), some (.inr (.inl (n82))), none, some (.inl ((Int32.ofInt 4) + Int32.ofInt 1)), none, none, none, none] [] σ (w, σ') := h
                                              rw [show (Int32.ofInt 4) + Int32.ofInt 1 = Int32.ofInt 5 from by decide] at h
                                              replace h : EV F f 177 z177 52 [some (rf 11 (0)), some (rf 14 (6)), some (.inr (.inl (n82))), none, some (.inl (Int32.ofInt 5)), none, none, none, none] [] σ (w, σ') := h
                                              replace h := ei_p h rfl rfl rfl rfl
                                              obtain ⟨f, g, h⟩ := h
                                              clear g
                                              replace h : EV F f 177 z177 17 [some (rf 11 (0)), some (rf 14 (6)), some (.inr (.inl (n82))), none, some (.inl (Int32.ofInt 5)), none, none, none, none] [] σ (w, σ') := h
                                              replace h := ei_p h rfl rfl rfl rfl
                                              obtain ⟨f, g, h⟩ := h
                                              clear g
                                              replace h : EV F f 177 z177 19 [some (rf 11 (0)), some (rf 14 (6)), some (.inr (.inl (n82))), none, some (.inl (Int32.ofInt 5)), none, none, none, none] [.inl (Int32.ofInt 5)] σ (w, σ') := h
                                              replace h := ei_p h rfl rfl rfl rfl
                                              obtain ⟨f, g, h⟩ := h
                                              clear g
                                              replace h : EV F f 177 z177 20 [some (rf 11 (0)), some (rf 14 (6)), some (.inr (.inl (n82))), none, some (.inl (Int32.ofInt 5)), none, none, none, none] [.inl (Int32.ofInt 5), .inl (Int32.ofInt 5)] σ (w, σ') := h
                                              replace h := ei_c h rfl rfl rfl
                                              rcases h with ⟨hp84, f, g, h⟩ | ⟨hp84, f, g, h⟩
                                              · skip
                                                clear g
                                                replace h : EV F f 177 z177 55 [some (rf 11 (0)), some (rf 14 (6)), some (.inr (.inl (n82))), none, some (.inl (Int32.ofInt 5)), none, none, none, none] [] σ (w, σ') := h
                                                replace h := ei_p h rfl rfl rfl rfl
                                                obtain ⟨f, g, h⟩ := h
                                                clear g
                                                replace h : EV F f 177 z177 56 [some (rf 11 (0)), some (rf 14 (6)), some (.inr (.inl (n82))), none, some (.inl (Int32.ofInt 5)), none, none, none, none] [.inr (.inl (n82))] σ (w, σ') := h
                                                replace h := ei_p h rfl rfl rfl rfl
                                                obtain ⟨f, g, h⟩ := h
                                                clear g
                                                replace h : EV F f 177 z177 57 [some (rf 11 (0)), some (rf 14 (6)), some (.inr (.inl (n82))), none, some (.inl (Int32.ofInt 5)), none, none, none, none] [rf 14 (6), .inr (.inl (n82))] σ (w, σ') := h
                                                replace h := ei_p h rfl rfl rfl rfl
                                                obtain ⟨f, g, h⟩ := h
                                                clear g
                                                replace h : EV F f 177 z177 58 [some (rf 11 (0)), some (rf 14 (6)), some (.inr (.inl (n82))), none, some (.inl (Int32.ofInt 5)), none, none, none, none] [.inl (Int32.ofInt 0), rf 14 (6), .inr (.inl (n82))] σ (w, σ') := h
                                                replace h := ei_lald h rfl (fun _ => rfl)
                                                obtain ⟨vp85, f, g, h⟩ := h
                                                clear g
                                                replace h : EV F f 177 z177 59 [some (rf 11 (0)), some (rf 14 (6)), some (.inr (.inl (n82))), none, some (.inl (Int32.ofInt 5)), none, none, none, none] [.inr (.inl (m_l σ 14 (6) (Int32.ofInt 0).toNatClampNeg)), .inr (.inl (n82))] σ (w, σ') := h
                                                refine ⟨vp_2 vp85, ?_⟩
                                                replace h := ei_p h rfl rfl rfl rfl
                                                obtain ⟨f, g, h⟩ := h
                                                clear g
                                                replace h : EV F f 177 z177 60 [some (rf 11 (0)), some (rf 14 (6)), some (.inr (.inl (n82))), none, some (.inl (Int32.ofInt 5)), none, none, none, none] [.inl (lg_cmp (n82) (m_l σ 14 (6) (Int32.ofInt 0).toNatClampNeg))] σ (w, σ') := h
                                                replace h := ei_c h rfl rfl rfl
                                                rcases h with ⟨hp86, f, g, h⟩ | ⟨hp86, f, g, h⟩
                                                · skip
                                                  replace hp86 : (n82).toInt ≠ (m_l σ 14 (6) (Int32.ofInt 0).toNatClampNeg).toInt := (ab_lc .ne _ _).mp hp86
                                                  refine Or.inl ⟨hp86, ?_⟩
                                                  clear g
                                                  replace h : EV F f 177 z177 89 [some (rf 11 (0)), some (rf 14 (6)), some (.inr (.inl (n82))), none, some (.inl (Int32.ofInt 5)), none, none, none, none] [] σ (w, σ') := h
                                                  replace h := ei_p h rfl rfl rfl rfl
                                                  obtain ⟨f, g, h⟩ := h
                                                  clear g
                                                  replace h : EV F f 177 z177 90 [some (rf 11 (0)), some (rf 14 (6)), some (.inr (.inl (n82))), none, some (.inl (Int32.ofInt 5)), none, none, none, none] [.inl (Int32.ofInt 0)] σ (w, σ') := h
                                                  replace h := ei_p h rfl rfl rfl rfl
                                                  obtain ⟨f, g, h⟩ := h
                                                  clear g
                                                  replace h : EV F f 177 z177 92 [some (rf 11 (0)), some (rf 14 (6)), some (.inr (.inl (n82))), none, some (.inl (Int32.ofInt 0)), none, none, none, none] [] σ (w, σ') := h
                                                  replace h := ei_p h rfl rfl rfl rfl
                                                  obtain ⟨f, g, h⟩ := h
                                                  clear g
                                                  replace h : EV F f 177 z177 93 [some (rf 11 (0)), some (rf 14 (6)), some (.inr (.inl (n82))), none, some (.inl (Int32.ofInt 0)), none, none, none, none] [.inl (Int32.ofInt 0)] σ (w, σ') := h
                                                  replace h := ei_p h rfl rfl rfl rfl
                                                  obtain ⟨f, g, h⟩ := h
                                                  clear g
                                                  replace h : EV F f 177 z177 95 [some (rf 11 (0)), some (rf 14 (6)), some (.inr (.inl (n82))), none, some (.inl (Int32.ofInt 0)), some (.inl (Int32.ofInt 0)), none, none, none] [] σ (w, σ') := h
                                                  replace h := ei_p h rfl rfl rfl rfl
                                                  obtain ⟨f, g, h⟩ := h
                                                  clear g
                                                  replace h : EV F f 177 z177 97 [some (rf 11 (0)), some (rf 14 (6)), some (.inr (.inl (n82))), none, some (.inl (Int32.ofInt 0)), some (.inl (Int32.ofInt 0)), none, none, none] [.inl (Int32.ofInt 0)] σ (w, σ') := h
                                                  replace h := ei_p h rfl rfl rfl rfl
                                                  obtain ⟨f, g, h⟩ := h
                                                  clear g
                                                  replace h : EV F f 177 z177 98 [some (rf 11 (0)), some (rf 14 (6)), some (.inr (.inl (n82))), none, some (.inl (Int32.ofInt 0)), some (.inl (Int32.ofInt 0)), none, none, none] [.inl (Int32.ofInt 3), .inl (Int32.ofInt 0)] σ (w, σ') := h
                                                  replace h := ei_c h rfl rfl rfl
                                                  rcases h with ⟨hp87, f, g, h⟩ | ⟨hp87, f, g, h⟩
                                                  · exact absurd (ic_ge.mp hp87) (by decide)
                                                  · skip
                                                    clear g
                                                    replace h : EV F f 177 z177 101 [some (rf 11 (0)), some (rf 14 (6)), some (.inr (.inl (n82))), none, some (.inl (Int32.ofInt 0)), some (.inl (Int32.ofInt 0)), none, none, none] [] σ (w, σ') := h
                                                    replace h := ei_p h rfl rfl rfl rfl
                                                    obtain ⟨f, g, h⟩ := h
                                                    clear g
                                                    replace h : EV F f 177 z177 103 [some (rf 11 (0)), some (rf 14 (6)), some (.inr (.inl (n82))), none, some (.inl (Int32.ofInt 0)), some (.inl (Int32.ofInt 0)), none, none, none] [.inl (Int32.ofInt 0)] σ (w, σ') := h
                                                    replace h := ei_c h rfl rfl rfl
                                                    rcases h with ⟨hp88, f, g, h⟩ | ⟨hp88, f, g, h⟩
                                                    · skip
                                                      clear g
                                                      replace h : EV F f 177 z177 163 [some (rf 11 (0)), some (rf 14 (6)), some (.inr (.inl (n82))), none, some (.inl (Int32.ofInt 0)), some (.inl (Int32.ofInt 0)), none, none, none] [] σ (w, σ') := h
                                                      replace h := ei_p h rfl rfl rfl rfl
                                                      obtain ⟨f, g, h⟩ := h
                                                      clear g
                                                      replace h : EV F f 177 z177 165 [some (rf 11 (0)), some (rf 14 (6)), some (.inr (.inl (n82))), none, some (.inl (Int32.ofInt 0)), some (.inl (Int32.ofInt 0)), none, none, none] [.inl (Int32.ofInt 0)] σ (w, σ') := h
                                                      have e := ei_iret h rfl
                                                      cases e
                                                      exact ⟨rfl, rfl⟩
                                                    · exact absurd (ic_eq.mpr (by decide)) hp88
                                                · skip
                                                  replace hp86 : ¬ ((n82).toInt ≠ (m_l σ 14 (6) (Int32.ofInt 0).toNatClampNeg).toInt) := (not_congr (ab_lc .ne _ _)).mp hp86
                                                  refine Or.inr ⟨hp86, ?_⟩
                                                  clear g
                                                  replace h : EV F f 177 z177 63 [some (rf 11 (0)), some (rf 14 (6)), some (.inr (.inl (n82))), none, some (.inl (Int32.ofInt 5)), none, none, none, none] [] σ (w, σ') := h
                                                  replace h := ei_p h rfl rfl rfl rfl
                                                  obtain ⟨f, g, h⟩ := h
                                                  clear g
                                                  replace h : EV F f 177 z177 64 [some (rf 11 (0)), some (rf 14 (6)), some (.inr (.inl (n82))), none, some (.inl (Int32.ofInt 5)), none, none, none, none] [rf 11 (0)] σ (w, σ') := h
                                                  replace h := ei_p h rfl rfl rfl rfl
                                                  obtain ⟨f, g, h⟩ := h
                                                  clear g
                                                  replace h : EV F f 177 z177 65 [some (rf 11 (0)), some (rf 14 (6)), some (.inr (.inl (n82))), none, some (.inl (Int32.ofInt 5)), none, none, none, none] [.inl (Int32.ofInt (-1)), rf 11 (0)] σ (w, σ') := h
                                                  replace h := ei_p h rfl rfl rfl rfl
                                                  obtain ⟨f, g, h⟩ := h
                                                  clear g
                                                  replace h : EV F f 177 z177 66 [some (rf 11 (0)), some (rf 14 (6)), some (.inr (.inl (n82))), none, some (.inl (Int32.ofInt 5)), none, none, none, none] [.inl (Int32.ofInt 1), .inl (Int32.ofInt (-1)), rf 11 (0)] σ (w, σ') := h
                                                  replace h := bx_L (ei_v (as := [.inl (Int32.ofInt 1), .inl (Int32.ofInt (-1))]) h rfl rfl rfl) z145_at rfl
                                                  rcases h with ⟨v89, σ90, r91, f, g, h⟩ | ⟨b, σ90, r91, e⟩
                                                  · skip
                                                    have er91 := ro2_run rfl r91
                                                    rw [er91] at h r91
                                                    clear g
                                                    have p92 := x145 hs.1 r91
                                                    refine Or.inl ⟨v89, p92, ?_⟩
                                                    replace h : EV F f 177 z177 69 [some (rf 11 (0)), some (rf 14 (6)), some (.inr (.inl (n82))), none, some (.inl (Int32.ofInt 5)), none, none, none, none] [.inr (.inl (v89))] σ (w, σ') := h
                                                    replace h := ei_p h rfl rfl rfl rfl
                                                    obtain ⟨f, g, h⟩ := h
                                                    clear g
                                                    replace h : EV F f 177 z177 70 [some (rf 11 (0)), some (rf 14 (6)), some (.inr (.inl (n82))), none, some (.inl (Int32.ofInt 5)), none, none, none, none] [.inr (.inl (Int64.ofNat 0)), .inr (.inl (v89))] σ (w, σ') := h
                                                    replace h := ei_p h rfl rfl rfl rfl
                                                    obtain ⟨f, g, h⟩ := h
                                                    clear g
                                                    replace h : EV F f 177 z177 71 [some (rf 11 (0)), some (rf 14 (6)), some (.inr (.inl (n82))), none, some (.inl (Int32.ofInt 5)), none, none, none, none] [.inl (lg_cmp (v89) (Int64.ofNat 0))] σ (w, σ') := h
                                                    replace h := ei_c h rfl rfl rfl
                                                    rcases h with ⟨hp93, f, g, h⟩ | ⟨hp93, f, g, h⟩
                                                    · skip
                                                      replace hp93 : (v89).toInt < (Int64.ofNat 0).toInt := (ab_lc .lt _ _).mp hp93
                                                      refine Or.inl ⟨hp93, ?_⟩
                                                      clear g
                                                      replace h : EV F f 177 z177 89 [some (rf 11 (0)), some (rf 14 (6)), some (.inr (.inl (n82))), none, some (.inl (Int32.ofInt 5)), none, none, none, none] [] σ (w, σ') := h
                                                      replace h := ei_p h rfl rfl rfl rfl
                                                      obtain ⟨f, g, h⟩ := h
                                                      clear g
                                                      replace h : EV F f 177 z177 90 [some (rf 11 (0)), some (rf 14 (6)), some (.inr (.inl (n82))), none, some (.inl (Int32.ofInt 5)), none, none, none, none] [.inl (Int32.ofInt 0)] σ (w, σ') := h
                                                      replace h := ei_p h rfl rfl rfl rfl
                                                      obtain ⟨f, g, h⟩ := h
                                                      clear g
                                                      replace h : EV F f 177 z177 92 [some (rf 11 (0)), some (rf 14 (6)), some (.inr (.inl (n82))), none, some (.inl (Int32.ofInt 0)), none, none, none, none] [] σ (w, σ') := h
                                                      replace h := ei_p h rfl rfl rfl rfl
                                                      obtain ⟨f, g, h⟩ := h
                                                      clear g
                                                      replace h : EV F f 177 z177 93 [some (rf 11 (0)), some (rf 14 (6)), some (.inr (.inl (n82))), none, some (.inl (Int32.ofInt 0)), none, none, none, none] [.inl (Int32.ofInt 0)] σ (w, σ') := h
                                                      replace h := ei_p h rfl rfl rfl rfl
                                                      obtain ⟨f, g, h⟩ := h
                                                      clear g
                                                      replace h : EV F f 177 z177 95 [some (rf 11 (0)), some (rf 14 (6)), some (.inr (.inl (n82))), none, some (.inl (Int32.ofInt 0)), some (.inl (Int32.ofInt 0)), none, none, none] [] σ (w, σ') := h
                                                      replace h := ei_p h rfl rfl rfl rfl
                                                      obtain ⟨f, g, h⟩ := h
                                                      clear g
                                                      replace h : EV F f 177 z177 97 [some (rf 11 (0)), some (rf 14 (6)), some (.inr (.inl (n82))), none, some (.inl (Int32.ofInt 0)), some (.inl (Int32.ofInt 0)), none, none, none] [.inl (Int32.ofInt 0)] σ (w, σ') := h
                                                      replace h := ei_p h rfl rfl rfl rfl
                                                      obtain ⟨f, g, h⟩ := h
                                                      clear g
                                                      replace h : EV F f 177 z177 98 [some (rf 11 (0)), some (rf 14 (6)), some (.inr (.inl (n82))), none, some (.inl (Int32.ofInt 0)), some (.inl (Int32.ofInt 0)), none, none, none] [.inl (Int32.ofInt 3), .inl (Int32.ofInt 0)] σ (w, σ') := h
                                                      replace h := ei_c h rfl rfl rfl
                                                      rcases h with ⟨hp94, f, g, h⟩ | ⟨hp94, f, g, h⟩
                                                      · exact absurd (ic_ge.mp hp94) (by decide)
                                                      · skip
                                                        clear g
                                                        replace h : EV F f 177 z177 101 [some (rf 11 (0)), some (rf 14 (6)), some (.inr (.inl (n82))), none, some (.inl (Int32.ofInt 0)), some (.inl (Int32.ofInt 0)), none, none, none] [] σ (w, σ') := h
                                                        replace h := ei_p h rfl rfl rfl rfl
                                                        obtain ⟨f, g, h⟩ := h
                                                        clear g
                                                        replace h : EV F f 177 z177 103 [some (rf 11 (0)), some (rf 14 (6)), some (.inr (.inl (n82))), none, some (.inl (Int32.ofInt 0)), some (.inl (Int32.ofInt 0)), none, none, none] [.inl (Int32.ofInt 0)] σ (w, σ') := h
                                                        replace h := ei_c h rfl rfl rfl
                                                        rcases h with ⟨hp95, f, g, h⟩ | ⟨hp95, f, g, h⟩
                                                        · skip
                                                          clear g
                                                          replace h : EV F f 177 z177 163 [some (rf 11 (0)), some (rf 14 (6)), some (.inr (.inl (n82))), none, some (.inl (Int32.ofInt 0)), some (.inl (Int32.ofInt 0)), none, none, none] [] σ (w, σ') := h
                                                          replace h := ei_p h rfl rfl rfl rfl
                                                          obtain ⟨f, g, h⟩ := h
                                                          clear g
                                                          replace h : EV F f 177 z177 165 [some (rf 11 (0)), some (rf 14 (6)), some (.inr (.inl (n82))), none, some (.inl (Int32.ofInt 0)), some (.inl (Int32.ofInt 0)), none, none, none] [.inl (Int32.ofInt 0)] σ (w, σ') := h
                                                          have e := ei_iret h rfl
                                                          cases e
                                                          exact ⟨rfl, rfl⟩
                                                        · exact absurd (ic_eq.mpr (by decide)) hp95
                                                    · skip
                                                      replace hp93 : ¬ ((v89).toInt < (Int64.ofNat 0).toInt) := (not_congr (ab_lc .lt _ _)).mp hp93
                                                      refine Or.inr ⟨hp93, ?_⟩
                                                      clear g
                                                      replace h : EV F f 177 z177 74 [some (rf 11 (0)), some (rf 14 (6)), some (.inr (.inl (n82))), none, some (.inl (Int32.ofInt 5)), none, none, none, none] [] σ (w, σ') := h
                                                      replace h := ei_p h rfl rfl rfl rfl
                                                      obtain ⟨f, g, h⟩ := h
                                                      clear g
                                                      replace h : EV F f 177 z177 75 [some (rf 11 (0)), some (rf 14 (6)), some (.inr (.inl (n82))), none, some (.inl (Int32.ofInt 5)), none, none, none, none] [rf 11 (0)] σ (w, σ') := h
                                                      replace h := ei_p h rfl rfl rfl rfl
                                                      obtain ⟨f, g, h⟩ := h
                                                      clear g
                                                      replace h : EV F f 177 z177 76 [some (rf 11 (0)), some (rf 14 (6)), some (.inr (.inl (n82))), none, some (.inl (Int32.ofInt 5)), none, none, none, none] [.inl (Int32.ofInt (-1)), rf 11 (0)] σ (w, σ') := h
                                                      replace h := ei_p h rfl rfl rfl rfl
                                                      obtain ⟨f, g, h⟩ := h
                                                      clear g
                                                      replace h : EV F f 177 z177 77 [some (rf 11 (0)), some (rf 14 (6)), some (.inr (.inl (n82))), none, some (.inl (Int32.ofInt 5)), none, none, none, none] [.inl (Int32.ofInt 2), .inl (Int32.ofInt (-1)), rf 11 (0)] σ (w, σ') := h
                                                      replace h := bx_L (ei_v (as := [.inl (Int32.ofInt 2), .inl (Int32.ofInt (-1))]) h rfl rfl rfl) z145_at rfl
                                                      rcases h with ⟨v96, σ97, r98, f, g, h⟩ | ⟨b, σ97, r98, e⟩
                                                      · skip
                                                        have er98 := ro2_run rfl r98
                                                        rw [er98] at h r98
                                                        clear g
                                                        have p99 := x145 hs.1 r98
                                                        refine Or.inl ⟨v96, p99, ?_⟩
                                                        replace h : EV F f 177 z177 80 [some (rf 11 (0)), some (rf 14 (6)), some (.inr (.inl (n82))), none, some (.inl (Int32.ofInt 5)), none, none, none, none] [.inr (.inl (v96))] σ (w, σ') := h
                                                        replace h := ei_p h rfl rfl rfl rfl
                                                        obtain ⟨f, g, h⟩ := h
                                                        clear g
                                                        replace h : EV F f 177 z177 81 [some (rf 11 (0)), some (rf 14 (6)), some (.inr (.inl (n82))), none, some (.inl (Int32.ofInt 5)), none, none, none, none] [.inr (.inl (Int64.ofNat 0)), .inr (.inl (v96))] σ (w, σ') := h
                                                        replace h := ei_p h rfl rfl rfl rfl
                                                        obtain ⟨f, g, h⟩ := h
                                                        clear g
                                                        replace h : EV F f 177 z177 82 [some (rf 11 (0)), some (rf 14 (6)), some (.inr (.inl (n82))), none, some (.inl (Int32.ofInt 5)), none, none, none, none] [.inl (lg_cmp (v96) (Int64.ofNat 0))] σ (w, σ') := h
                                                        replace h := ei_c h rfl rfl rfl
                                                        rcases h with ⟨hp100, f, g, h⟩ | ⟨hp100, f, g, h⟩
                                                        · skip
                                                          replace hp100 : (v96).toInt < (Int64.ofNat 0).toInt := (ab_lc .lt _ _).mp hp100
                                                          refine Or.inl ⟨hp100, ?_⟩
                                                          clear g
                                                          replace h : EV F f 177 z177 89 [some (rf 11 (0)), some (rf 14 (6)), some (.inr (.inl (n82))), none, some (.inl (Int32.ofInt 5)), none, none, none, none] [] σ (w, σ') := h
                                                          replace h := ei_p h rfl rfl rfl rfl
                                                          obtain ⟨f, g, h⟩ := h
                                                          clear g
                                                          replace h : EV F f 177 z177 90 [some (rf 11 (0)), some (rf 14 (6)), some (.inr (.inl (n82))), none, some (.inl (Int32.ofInt 5)), none, none, none, none] [.inl (Int32.ofInt 0)] σ (w, σ') := h
                                                          replace h := ei_p h rfl rfl rfl rfl
                                                          obtain ⟨f, g, h⟩ := h
                                                          clear g
                                                          replace h : EV F f 177 z177 92 [some (rf 11 (0)), some (rf 14 (6)), some (.inr (.inl (n82))), none, some (.inl (Int32.ofInt 0)), none, none, none, none] [] σ (w, σ') := h
                                                          replace h := ei_p h rfl rfl rfl rfl
                                                          obtain ⟨f, g, h⟩ := h
                                                          clear g
                                                          replace h : EV F f 177 z177 93 [some (rf 11 (0)), some (rf 14 (6)), some (.inr (.inl (n82))), none, some (.inl (Int32.ofInt 0)), none, none, none, none] [.inl (Int32.ofInt 0)] σ (w, σ') := h
                                                          replace h := ei_p h rfl rfl rfl rfl
                                                          obtain ⟨f, g, h⟩ := h
                                                          clear g
                                                          replace h : EV F f 177 z177 95 [some (rf 11 (0)), some (rf 14 (6)), some (.inr (.inl (n82))), none, some (.inl (Int32.ofInt 0)), some (.inl (Int32.ofInt 0)), none, none, none] [] σ (w, σ') := h
                                                          replace h := ei_p h rfl rfl rfl rfl
                                                          obtain ⟨f, g, h⟩ := h
                                                          clear g
                                                          replace h : EV F f 177 z177 97 [some (rf 11 (0)), some (rf 14 (6)), some (.inr (.inl (n82))), none, some (.inl (Int32.ofInt 0)), some (.inl (Int32.ofInt 0)), none, none, none] [.inl (Int32.ofInt 0)] σ (w, σ') := h
                                                          replace h := ei_p h rfl rfl rfl rfl
                                                          obtain ⟨f, g, h⟩ := h
                                                          clear g
                                                          replace h : EV F f 177 z177 98 [some (rf 11 (0)), some (rf 14 (6)), some (.inr (.inl (n82))), none, some (.inl (Int32.ofInt 0)), some (.inl (Int32.ofInt 0)), none, none, none] [.inl (Int32.ofInt 3), .inl (Int32.ofInt 0)] σ (w, σ') := h
                                                          replace h := ei_c h rfl rfl rfl
                                                          rcases h with ⟨hp101, f, g, h⟩ | ⟨hp101, f, g, h⟩
                                                          · exact absurd (ic_ge.mp hp101) (by decide)
                                                          · skip
                                                            clear g
                                                            replace h : EV F f 177 z177 101 [some (rf 11 (0)), some (rf 14 (6)), some (.inr (.inl (n82))), none, some (.inl (Int32.ofInt 0)), some (.inl (Int32.ofInt 0)), none, none, none] [] σ (w, σ') := h
                                                            replace h := ei_p h rfl rfl rfl rfl
                                                            obtain ⟨f, g, h⟩ := h
                                                            clear g
                                                            replace h : EV F f 177 z177 103 [some (rf 11 (0)), some (rf 14 (6)), some (.inr (.inl (n82))), none, some (.inl (Int32.ofInt 0)), some (.inl (Int32.ofInt 0)), none, none, none] [.inl (Int32.ofInt 0)] σ (w, σ') := h
                                                            replace h := ei_c h rfl rfl rfl
                                                            rcases h with ⟨hp102, f, g, h⟩ | ⟨hp102, f, g, h⟩
                                                            · skip
                                                              clear g
                                                              replace h : EV F f 177 z177 163 [some (rf 11 (0)), some (rf 14 (6)), some (.inr (.inl (n82))), none, some (.inl (Int32.ofInt 0)), some (.inl (Int32.ofInt 0)), none, none, none] [] σ (w, σ') := h
                                                              replace h := ei_p h rfl rfl rfl rfl
                                                              obtain ⟨f, g, h⟩ := h
                                                              clear g
                                                              replace h : EV F f 177 z177 165 [some (rf 11 (0)), some (rf 14 (6)), some (.inr (.inl (n82))), none, some (.inl (Int32.ofInt 0)), some (.inl (Int32.ofInt 0)), none, none, none] [.inl (Int32.ofInt 0)] σ (w, σ') := h
                                                              have e := ei_iret h rfl
                                                              cases e
                                                              exact ⟨rfl, rfl⟩
                                                            · exact absurd (ic_eq.mpr (by decide)) hp102
                                                        · skip
                                                          replace hp100 : ¬ ((v96).toInt < (Int64.ofNat 0).toInt) := (not_congr (ab_lc .lt _ _)).mp hp100
                                                          refine Or.inr ⟨hp100, ?_⟩
                                                          clear g
                                                          replace h : EV F f 177 z177 85 [some (rf 11 (0)), some (rf 14 (6)), some (.inr (.inl (n82))), none, some (.inl (Int32.ofInt 5)), none, none, none, none] [] σ (w, σ') := h
                                                          replace h := ei_p h rfl rfl rfl rfl
                                                          obtain ⟨f, g, h⟩ := h
                                                          clear g
                                                          replace h : EV F f 177 z177 86 [some (rf 11 (0)), some (rf 14 (6)), some (.inr (.inl (n82))), none, some (.inl (Int32.ofInt 5)), none, none, none, none] [.inl (Int32.ofInt 1)] σ (w, σ') := h
                                                          replace h := ei_p h rfl rfl rfl rfl
                                                          obtain ⟨f, g, h⟩ := h
                                                          clear g
                                                          replace h : EV F f 177 z177 90 [some (rf 11 (0)), some (rf 14 (6)), some (.inr (.inl (n82))), none, some (.inl (Int32.ofInt 5)), none, none, none, none] [.inl (Int32.ofInt 1)] σ (w, σ') := h
                                                          replace h := ei_p h rfl rfl rfl rfl
                                                          obtain ⟨f, g, h⟩ := h
                                                          clear g
                                                          replace h : EV F f 177 z177 92 [some (rf 11 (0)), some (rf 14 (6)), some (.inr (.inl (n82))), none, some (.inl (Int32.ofInt 1)), none, none, none, none] [] σ (w, σ') := h
                                                          replace h := ei_p h rfl rfl rfl rfl
                                                          obtain ⟨f, g, h⟩ := h
                                                          clear g
                                                          replace h : EV F f 177 z177 93 [some (rf 11 (0)), some (rf 14 (6)), some (.inr (.inl (n82))), none, some (.inl (Int32.ofInt 1)), none, none, none, none] [.inl (Int32.ofInt 0)] σ (w, σ') := h
                                                          replace h := ei_p h rfl rfl rfl rfl
                                                          obtain ⟨f, g, h⟩ := h
                                                          clear g
                                                          replace h : EV F f 177 z177 95 [some (rf 11 (0)), some (rf 14 (6)), some (.inr (.inl (n82))), none, some (.inl (Int32.ofInt 1)), some (.inl (Int32.ofInt 0)), none, none, none] [] σ (w, σ') := h
                                                          replace h := ei_p h rfl rfl rfl rfl
                                                          obtain ⟨f, g, h⟩ := h
                                                          clear g
                                                          replace h : EV F f 177 z177 97 [some (rf 11 (0)), some (rf 14 (6)), some (.inr (.inl (n82))), none, some (.inl (Int32.ofInt 1)), some (.inl (Int32.ofInt 0)), none, none, none] [.inl (Int32.ofInt 0)] σ (w, σ') := h
                                                          replace h := ei_p h rfl rfl rfl rfl
                                                          obtain ⟨f, g, h⟩ := h
                                                          clear g
                                                          replace h : EV F f 177 z177 98 [some (rf 11 (0)), some (rf 14 (6)), some (.inr (.inl (n82))), none, some (.inl (Int32.ofInt 1)), some (.inl (Int32.ofInt 0)), none, none, none] [.inl (Int32.ofInt 3), .inl (Int32.ofInt 0)] σ (w, σ') := h
                                                          replace h := ei_c h rfl rfl rfl
                                                          rcases h with ⟨hp103, f, g, h⟩ | ⟨hp103, f, g, h⟩
                                                          · exact absurd (ic_ge.mp hp103) (by decide)
                                                          · skip
                                                            clear g
                                                            replace h : EV F f 177 z177 101 [some (rf 11 (0)), some (rf 14 (6)), some (.inr (.inl (n82))), none, some (.inl (Int32.ofInt 1)), some (.inl (Int32.ofInt 0)), none, none, none] [] σ (w, σ') := h
                                                            replace h := ei_p h rfl rfl rfl rfl
                                                            obtain ⟨f, g, h⟩ := h
                                                            clear g
                                                            replace h : EV F f 177 z177 103 [some (rf 11 (0)), some (rf 14 (6)), some (.inr (.inl (n82))), none, some (.inl (Int32.ofInt 1)), some (.inl (Int32.ofInt 0)), none, none, none] [.inl (Int32.ofInt 1)] σ (w, σ') := h
                                                            replace h := ei_c h rfl rfl rfl
                                                            rcases h with ⟨hp104, f, g, h⟩ | ⟨hp104, f, g, h⟩
                                                            · exact absurd (ic_eq.mp hp104) (by decide)
                                                            · skip
                                                              clear g
                                                              replace h : EV F f 177 z177 106 [some (rf 11 (0)), some (rf 14 (6)), some (.inr (.inl (n82))), none, some (.inl (Int32.ofInt 1)), some (.inl (Int32.ofInt 0)), none, none, none] [] σ (w, σ') := h
                                                              replace h := ei_p h rfl rfl rfl rfl
                                                              obtain ⟨f, g, h⟩ := h
                                                              clear g
                                                              replace h : EV F f 177 z177 107 [some (rf 11 (0)), some (rf 14 (6)), some (.inr (.inl (n82))), none, some (.inl (Int32.ofInt 1)), some (.inl (Int32.ofInt 0)), none, none, none] [rf 11 (0)] σ (w, σ') := h
                                                              replace h := ei_p h rfl rfl rfl rfl
                                                              obtain ⟨f, g, h⟩ := h
                                                              clear g
                                                              replace h : EV F f 177 z177 108 [some (rf 11 (0)), some (rf 14 (6)), some (.inr (.inl (n82))), none, some (.inl (Int32.ofInt 1)), some (.inl (Int32.ofInt 0)), none, none, none] [.inl (Int32.ofInt (-1)), rf 11 (0)] σ (w, σ') := h
                                                              replace h := ei_p h rfl rfl rfl rfl
                                                              obtain ⟨f, g, h⟩ := h
                                                              clear g
                                                              replace h : EV F f 177 z177 110 [some (rf 11 (0)), some (rf 14 (6)), some (.inr (.inl (n82))), none, some (.inl (Int32.ofInt 1)), some (.inl (Int32.ofInt 0)), none, none, none] [.inl (Int32.ofInt 0), .inl (Int32.ofInt (-1)), rf 11 (0)] σ (w, σ') := h
                                                              replace h := bx_L (ei_v (as := [.inl (Int32.ofInt 0), .inl (Int32.ofInt (-1))]) h rfl rfl rfl) z144_at rfl
                                                              rcases h with ⟨v105, σ106, r107, f, g, h⟩ | ⟨b, σ106, r107, e⟩
                                                              · skip
                                                                have er107 := ro2_run rfl r107
                                                                rw [er107] at h r107
                                                                clear g
                                                                have p108 := x144 hs.1 r107
                                                                refine Or.inl ⟨v105, p108, ?_⟩
                                                                replace h : EV F f 177 z177 113 [some (rf 11 (0)), some (rf 14 (6)), some (.inr (.inl (n82))), none, some (.inl (Int32.ofInt 1)), some (.inl (Int32.ofInt 0)), none, none, none] [.inr (.inl (v105))] σ (w, σ') := h
                                                                replace h := ei_p h rfl rfl rfl rfl
                                                                obtain ⟨f, g, h⟩ := h
                                                                clear g
                                                                replace h : EV F f 177 z177 115 [some (rf 11 (0)), some (rf 14 (6)), some (.inr (.inl (n82))), none, some (.inl (Int32.ofInt 1)), some (.inl (Int32.ofInt 0)), some (.inr (.inl (v105))), none, none] [] σ (w, σ') := h
                                                                replace h := ei_p h rfl rfl rfl rfl
                                                                obtain ⟨f, g, h⟩ := h
                                                                clear g
                                                                replace h : EV F f 177 z177 116 [some (rf 11 (0)), some (rf 14 (6)), some (.inr (.inl (n82))), none, some (.inl (Int32.ofInt 1)), some (.inl (Int32.ofInt 0)), some (.inr (.inl (v105))), none, none] [.inl (Int32.ofInt 0)] σ (w, σ') := h
                                                                replace h := ei_p h rfl rfl rfl rfl
                                                                obtain ⟨f, g, h⟩ := h
                                                                clear g
                                                                replace h : EV F f 177 z177 118 [some (rf 11 (0)), some (rf 14 (6)), some (.inr (.inl (n82))), none, some (.inl (Int32.ofInt 1)), some (.inl (Int32.ofInt 0)), some (.inr (.inl (v105))), none, some (.inl (Int32.ofInt 0))] [] σ (w, σ') := h
                                                                replace h := ei_p h rfl rfl rfl rfl
                                                                obtain ⟨f, g, h⟩ := h
                                                                clear g
                                                                replace h : EV F f 177 z177 120 [some (rf 11 (0)), some (rf 14 (6)), some (.inr (.inl (n82))), none, some (.inl (Int32.ofInt 1)), some (.inl (Int32.ofInt 0)), some (.inr (.inl (v105))), none, some (.inl (Int32.ofInt 0))] [.inl (Int32.ofInt 0)] σ (w, σ') := h
                                                                replace h := ei_p h rfl rfl rfl rfl
                                                                obtain ⟨f, g, h⟩ := h
                                                                clear g
                                                                replace h : EV F f 177 z177 121 [some (rf 11 (0)), some (rf 14 (6)), some (.inr (.inl (n82))), none, some (.inl (Int32.ofInt 1)), some (.inl (Int32.ofInt 0)), some (.inr (.inl (v105))), none, some (.inl (Int32.ofInt 0))] [.inl (Int32.ofInt 5), .inl (Int32.ofInt 0)] σ (w, σ') := h
                                                                replace h := ei_c h rfl rfl rfl
                                                                rcases h with ⟨hp109, f, g, h⟩ | ⟨hp109, f, g, h⟩
                                                                · exact absurd (ic_ge.mp hp109) (by decide)
                                                                · skip
                                                                  clear g
                                                                  replace h : EV F f 177 z177 124 [some (rf 11 (0)), some (rf 14 (6)), some (.inr (.inl (n82))), none, some (.inl (Int32.ofInt 1)), some (.inl (Int32.ofInt 0)), some (.inr (.inl (v105))), none, some (.inl (Int32.ofInt 0))] [] σ (w, σ') := h
                                                                  replace h := ei_p h rfl rfl rfl rfl
                                                                  obtain ⟨f, g, h⟩ := h
                                                                  clear g
                                                                  replace h : EV F f 177 z177 126 [some (rf 11 (0)), some (rf 14 (6)), some (.inr (.inl (n82))), none, some (.inl (Int32.ofInt 1)), some (.inl (Int32.ofInt 0)), some (.inr (.inl (v105))), none, some (.inl (Int32.ofInt 0))] [.inr (.inl (v105))] σ (w, σ') := h
                                                                  replace h := ei_p h rfl rfl rfl rfl
                                                                  obtain ⟨f, g, h⟩ := h
                                                                  clear g
                                                                  replace h : EV F f 177 z177 127 [some (rf 11 (0)), some (rf 14 (6)), some (.inr (.inl (n82))), none, some (.inl (Int32.ofInt 1)), some (.inl (Int32.ofInt 0)), some (.inr (.inl (v105))), none, some (.inl (Int32.ofInt 0))] [rf 11 (0), .inr (.inl (v105))] σ (w, σ') := h
                                                                  replace h := ei_p h rfl rfl rfl rfl
                                                                  obtain ⟨f, g, h⟩ := h
                                                                  clear g
                                                                  replace h : EV F f 177 z177 129 [some (rf 11 (0)), some (rf 14 (6)), some (.inr (.inl (n82))), none, some (.inl (Int32.ofInt 1)), some (.inl (Int32.ofInt 0)), some (.inr (.inl (v105))), none, some (.inl (Int32.ofInt 0))] [.inl (Int32.ofInt 0), rf 11 (0), .inr (.inl (v105))] σ (w, σ') := h
                                                                  replace h := ei_p h rfl rfl rfl rfl
                                                                  obtain ⟨f, g, h⟩ := h
                                                                  clear g
                                                                  replace h : EV F f 177 z177 131 [some (rf 11 (0)), some (rf 14 (6)), some (.inr (.inl (n82))), none, some (.inl (Int32.ofInt 1)), some (.inl (Int32.ofInt 0)), some (.inr (.inl (v105))), none, some (.inl (Int32.ofInt 0))] [.inl (Int32.ofInt 0), .inl (Int32.ofInt 0), rf 11 (0), .inr (.inl (v105))] σ (w, σ') := h
                                                                  replace h := bx_L (ei_v (as := [.inl (Int32.ofInt 0), .inl (Int32.ofInt 0)]) h rfl rfl rfl) z144_at rfl
                                                                  rcases h with ⟨v110, σ111, r112, f, g, h⟩ | ⟨b, σ111, r112, e⟩
                                                                  · skip
                                                                    have er112 := ro2_run rfl r112
                                                                    rw [er112] at h r112
                                                                    clear g
                                                                    have p113 := x144 hs.1 r112
                                                                    refine Or.inl ⟨v110, p113, ?_⟩
                                                                    replace h : EV F f 177 z177 134 [some (rf 11 (0)), some (rf 14 (6)), some (.inr (.inl (n82))), none, some (.inl (Int32.ofInt 1)), some (.inl (Int32.ofInt 0)), some (.inr (.inl (v105))), none, some (.inl (Int32.ofInt 0))] [.inr (.inl (v110)), .inr (.inl (v105))] σ (w, σ') := h
                                                                    replace h := ei_p h rfl rfl rfl rfl
                                                                    obtain ⟨f, g, h⟩ := h
                                                                    clear g
                                                                    replace h : EV F f 177 z177 135 [some (rf 11 (0)), some (rf 14 (6)), some (.inr (.inl (n82))), none, some (.inl (Int32.ofInt 1)), some (.inl (Int32.ofInt 0)), some (.inr (.inl (v105))), none, some (.inl (Int32.ofInt 0))] [.inr (.inl ((v105) + (v110)))] σ (w, σ') := h
                                                                    replace h := ei_p h rfl rfl rfl rfl
                                                                    obtain ⟨f, g, h⟩ := h
                                                                    clear g
                                                                    replace h : EV F f 177 z177 137 [some (rf 11 (0)), some (rf 14 (6)), some (.inr (.inl (n82))), none, some (.inl (Int32.ofInt 1)), some (.inl (Int32.ofInt 0)), some (.inr (.inl ((v105) + (v110)))), none, some (.inl (Int32.ofInt 0))] [] σ (w, σ') := h
                                                                    replace h := ei_p h rfl rfl rfl rfl
                                                                    obtain ⟨f, g, h⟩ := h
                                                                    clear g
                                                                    replace h : EV F f 177 z177 140 [some (rf 11 (0)), some (rf 14 (6)), some (.inr (.inl (n82))), none, some (.inl (Int32.ofInt 1)), some (.inl (Int32.ofInt 0)), some (.inr (.inl ((v105) + (v110)))), none, some (.inl ((Int32.ofInt 0) + Int32.ofInt 1))] [] σ (w, σ') := h
                                                                    rw [show (Int32.ofInt 0) + Int32.ofInt 1 = Int32.ofInt 1 from by decide] at h
                                                                    replace h : EV F f 177 z177 140 [some (rf 11 (0)), some (rf 14 (6)), some (.inr (.inl (n82))), none, some (.inl (Int32.ofInt 1)), some (.inl (Int32.ofInt 0)), some (.inr (.inl ((v105) + (v110)))), none, some (.inl (Int32.ofInt 1))] [] σ (w, σ') := h
                                                                    replace h := ei_p h rfl rfl rfl rfl
                                                                    obtain ⟨f, g, h⟩ := h
                                                                    clear g
                                                                    replace h : EV F f 177 z177 118 [some (rf 11 (0)), some (rf 14 (6)), some (.inr (.inl (n82))), none, some (.inl (Int32.ofInt 1)), some (.inl (Int32.ofInt 0)), some (.inr (.inl ((v105) + (v110)))), none, some (.inl (Int32.ofInt 1))] [] σ (w, σ') := h
                                                                    replace h := ei_p h rfl rfl rfl rfl
                                                                    obtain ⟨f, g, h⟩ := h
                                                                    clear g
                                                                    replace h : EV F f 177 z177 120 [some (rf 11 (0)), some (rf 14 (6)), some (.inr (.inl (n82))), none, some (.inl (Int32.ofInt 1)), some (.inl (Int32.ofInt 0)), some (.inr (.inl ((v105) + (v110)))), none, some (.inl (Int32.ofInt 1))] [.inl (Int32.ofInt 1)] σ (w, σ') := h
                                                                    replace h := ei_p h rfl rfl rfl rfl
                                                                    obtain ⟨f, g, h⟩ := h
                                                                    clear g
                                                                    replace h : EV F f 177 z177 121 [some (rf 11 (0)), some (rf 14 (6)), some (.inr (.inl (n82))), none, some (.inl (Int32.ofInt 1)), some (.inl (Int32.ofInt 0)), some (.inr (.inl ((v105) + (v110)))), none, some (.inl (Int32.ofInt 1))] [.inl (Int32.ofInt 5), .inl (Int32.ofInt 1)] σ (w, σ') := h
                                                                    replace h := ei_c h rfl rfl rfl
                                                                    rcases h with ⟨hp114, f, g, h⟩ | ⟨hp114, f, g, h⟩
                                                                    · exact absurd (ic_ge.mp hp114) (by decide)
                                                                    · skip
                                                                      clear g
                                                                      replace h : EV F f 177 z177 124 [some (rf 11 (0)), some (rf 14 (6)), some (.inr (.inl (n82))), none, some (.inl (Int32.ofInt 1)), some (.inl (Int32.ofInt 0)), some (.inr (.inl ((v105) + (v110)))), none, some (.inl (Int32.ofInt 1))] [] σ (w, σ') := h
                                                                      replace h := ei_p h rfl rfl rfl rfl
                                                                      obtain ⟨f, g, h⟩ := h
                                                                      clear g
                                                                      replace h : EV F f 177 z177 126 [some (rf 11 (0)), some (rf 14 (6)), some (.inr (.inl (n82))), none, some (.inl (Int32.ofInt 1)), some (.inl (Int32.ofInt 0)), some (.inr (.inl ((v105) + (v110)))), none, some (.inl (Int32.ofInt 1))] [.inr (.inl ((v105) + (v110)))] σ (w, σ') := h
                                                                      replace h := ei_p h rfl rfl rfl rfl
                                                                      obtain ⟨f, g, h⟩ := h
                                                                      clear g
                                                                      replace h : EV F f 177 z177 127 [some (rf 11 (0)), some (rf 14 (6)), some (.inr (.inl (n82))), none, some (.inl (Int32.ofInt 1)), some (.inl (Int32.ofInt 0)), some (.inr (.inl ((v105) + (v110)))), none, some (.inl (Int32.ofInt 1))] [rf 11 (0), .inr (.inl ((v105) + (v110)))] σ (w, σ') := h
                                                                      replace h := ei_p h rfl rfl rfl rfl
                                                                      obtain ⟨f, g, h⟩ := h
                                                                      clear g
                                                                      replace h : EV F f 177 z177 129 [some (rf 11 (0)), some (rf 14 (6)), some (.inr (.inl (n82))), none, some (.inl (Int32.ofInt 1)), some (.inl (Int32.ofInt 0)), some (.inr (.inl ((v105) + (v110)))), none, some (.inl (Int32.ofInt 1))] [.inl (Int32.ofInt 1), rf 11 (0), .inr (.inl ((v105) + (v110)))] σ (w, σ') := h
                                                                      replace h := ei_p h rfl rfl rfl rfl
                                                                      obtain ⟨f, g, h⟩ := h
                                                                      clear g
                                                                      replace h : EV F f 177 z177 131 [some (rf 11 (0)), some (rf 14 (6)), some (.inr (.inl (n82))), none, some (.inl (Int32.ofInt 1)), some (.inl (Int32.ofInt 0)), some (.inr (.inl ((v105) + (v110)))), none, some (.inl (Int32.ofInt 1))] [.inl (Int32.ofInt 0), .inl (Int32.ofInt 1), rf 11 (0), .inr (.inl ((v105) + (v110)))] σ (w, σ') := h
                                                                      replace h := bx_L (ei_v (as := [.inl (Int32.ofInt 0), .inl (Int32.ofInt 1)]) h rfl rfl rfl) z144_at rfl
                                                                      rcases h with ⟨v115, σ116, r117, f, g, h⟩ | ⟨b, σ116, r117, e⟩
                                                                      · skip
                                                                        have er117 := ro2_run rfl r117
                                                                        rw [er117] at h r117
                                                                        clear g
                                                                        have p118 := x144 hs.1 r117
                                                                        refine Or.inl ⟨v115, p118, ?_⟩
                                                                        replace h : EV F f 177 z177 134 [some (rf 11 (0)), some (rf 14 (6)), some (.inr (.inl (n82))), none, some (.inl (Int32.ofInt 1)), some (.inl (Int32.ofInt 0)), some (.inr (.inl ((v105) + (v110)))), none, some (.inl (Int32.ofInt 1))] [.inr (.inl (v115)), .inr (.inl ((v105) + (v110)))] σ (w, σ') := h
                                                                        replace h := ei_p h rfl rfl rfl rfl
                                                                        obtain ⟨f, g, h⟩ := h
                                                                        clear g
                                                                        replace h : EV F f 177 z177 135 [some (rf 11 (0)), some (rf 14 (6)), some (.inr (.inl (n82))), none, some (.inl (Int32.ofInt 1)), some (.inl (Int32.ofInt 0)), some (.inr (.inl ((v105) + (v110)))), none, some (.inl (Int32.ofInt 1))] [.inr (.inl (((v105) + (v110)) + (v115)))] σ (w, σ') := h
                                                                        replace h := ei_p h rfl rfl rfl rfl
                                                                        obtain ⟨f, g, h⟩ := h
                                                                        clear g
                                                                        replace h : EV F f 177 z177 137 [some (rf 11 (0)), some (rf 14 (6)), some (.inr (.inl (n82))), none, some (.inl (Int32.ofInt 1)), some (.inl (Int32.ofInt 0)), some (.inr (.inl (((v105) + (v110)) + (v115)))), none, some (.inl (Int32.ofInt 1))] [] σ (w, σ') := h
                                                                        replace h := ei_p h rfl rfl rfl rfl
                                                                        obtain ⟨f, g, h⟩ := h
                                                                        clear g
                                                                        replace h : EV F f 177 z177 140 [some (rf 11 (0)), some (rf 14 (6)), some (.inr (.inl (n82))), none, some (.inl (Int32.ofInt 1)), some (.inl (Int32.ofInt 0)), some (.inr (.inl (((v105) + (v110)) + (v115)))), none, some (.inl ((Int32.ofInt 1) + Int32.ofInt 1))] [] σ (w, σ') := h
                                                                        rw [show (Int32.ofInt 1) + Int32.ofInt 1 = Int32.ofInt 2 from by decide] at h
                                                                        replace h : EV F f 177 z177 140 [some (rf 11 (0)), some (rf 14 (6)), some (.inr (.inl (n82))), none, some (.inl (Int32.ofInt 1)), some (.inl (Int32.ofInt 0)), some (.inr (.inl (((v105) + (v110)) + (v115)))), none, some (.inl (Int32.ofInt 2))] [] σ (w, σ') := h
                                                                        replace h := ei_p h rfl rfl rfl rfl
                                                                        obtain ⟨f, g, h⟩ := h
                                                                        clear g
                                                                        replace h : EV F f 177 z177 118 [some (rf 11 (0)), some (rf 14 (6)), some (.inr (.inl (n82))), none, some (.inl (Int32.ofInt 1)), some (.inl (Int32.ofInt 0)), some (.inr (.inl (((v105) + (v110)) + (v115)))), none, some (.inl (Int32.ofInt 2))] [] σ (w, σ') := h
                                                                        replace h := ei_p h rfl rfl rfl rfl
                                                                        obtain ⟨f, g, h⟩ := h
                                                                        clear g
                                                                        replace h : EV F f 177 z177 120 [some (rf 11 (0)), some (rf 14 (6)), some (.inr (.inl (n82))), none, some (.inl (Int32.ofInt 1)), some (.inl (Int32.ofInt 0)), some (.inr (.inl (((v105) + (v110)) + (v115)))), none, some (.inl (Int32.ofInt 2))] [.inl (Int32.ofInt 2)] σ (w, σ') := h
                                                                        replace h := ei_p h rfl rfl rfl rfl
                                                                        obtain ⟨f, g, h⟩ := h
                                                                        clear g
                                                                        replace h : EV F f 177 z177 121 [some (rf 11 (0)), some (rf 14 (6)), some (.inr (.inl (n82))), none, some (.inl (Int32.ofInt 1)), some (.inl (Int32.ofInt 0)), some (.inr (.inl (((v105) + (v110)) + (v115)))), none, some (.inl (Int32.ofInt 2))] [.inl (Int32.ofInt 5), .inl (Int32.ofInt 2)] σ (w, σ') := h
                                                                        replace h := ei_c h rfl rfl rfl
                                                                        rcases h with ⟨hp119, f, g, h⟩ | ⟨hp119, f, g, h⟩
                                                                        · exact absurd (ic_ge.mp hp119) (by decide)
                                                                        · skip
                                                                          clear g
                                                                          replace h : EV F f 177 z177 124 [some (rf 11 (0)), some (rf 14 (6)), some (.inr (.inl (n82))), none, some (.inl (Int32.ofInt 1)), some (.inl (Int32.ofInt 0)), some (.inr (.inl (((v105) + (v110)) + (v115)))), none, some (.inl (Int32.ofInt 2))] [] σ (w, σ') := h
                                                                          replace h := ei_p h rfl rfl rfl rfl
                                                                          obtain ⟨f, g, h⟩ := h
                                                                          clear g
                                                                          replace h : EV F f 177 z177 126 [some (rf 11 (0)), some (rf 14 (6)), some (.inr (.inl (n82))), none, some (.inl (Int32.ofInt 1)), some (.inl (Int32.ofInt 0)), some (.inr (.inl (((v105) + (v110)) + (v115)))), none, some (.inl (Int32.ofInt 2))] [.inr (.inl (((v105) + (v110)) + (v115)))] σ (w, σ') := h
                                                                          replace h := ei_p h rfl rfl rfl rfl
                                                                          obtain ⟨f, g, h⟩ := h
                                                                          clear g
                                                                          replace h : EV F f 177 z177 127 [some (rf 11 (0)), some (rf 14 (6)), some (.inr (.inl (n82))), none, some (.inl (Int32.ofInt 1)), some (.inl (Int32.ofInt 0)), some (.inr (.inl (((v105) + (v110)) + (v115)))), none, some (.inl (Int32.ofInt 2))] [rf 11 (0), .inr (.inl (((v105) + (v110)) + (v115)))] σ (w, σ') := h
                                                                          replace h := ei_p h rfl rfl rfl rfl
                                                                          obtain ⟨f, g, h⟩ := h
                                                                          clear g
                                                                          replace h : EV F f 177 z177 129 [some (rf 11 (0)), some (rf 14 (6)), some (.inr (.inl (n82))), none, some (.inl (Int32.ofInt 1)), some (.inl (Int32.ofInt 0)), some (.inr (.inl (((v105) + (v110)) + (v115)))), none, some (.inl (Int32.ofInt 2))] [.inl (Int32.ofInt 2), rf 11 (0), .inr (.inl (((v105) + (v110)) + (v115)))] σ (w, σ') := h
                                                                          replace h := ei_p h rfl rfl rfl rfl
                                                                          obtain ⟨f, g, h⟩ := h
                                                                          clear g
                                                                          replace h : EV F f 177 z177 131 [some (rf 11 (0)), some (rf 14 (6)), some (.inr (.inl (n82))), none, some (.inl (Int32.ofInt 1)), some (.inl (Int32.ofInt 0)), some (.inr (.inl (((v105) + (v110)) + (v115)))), none, some (.inl (Int32.ofInt 2))] [.inl (Int32.ofInt 0), .inl (Int32.ofInt 2), rf 11 (0), .inr (.inl (((v105) + (v110)) + (v115)))] σ (w, σ') := h
                                                                          replace h := bx_L (ei_v (as := [.inl (Int32.ofInt 0), .inl (Int32.ofInt 2)]) h rfl rfl rfl) z144_at rfl
                                                                          rcases h with ⟨v120, σ121, r122, f, g, h⟩ | ⟨b, σ121, r122, e⟩
                                                                          · skip
                                                                            have er122 := ro2_run rfl r122
                                                                            rw [er122] at h r122
                                                                            clear g
                                                                            have p123 := x144 hs.1 r122
                                                                            refine Or.inl ⟨v120, p123, ?_⟩
                                                                            replace h : EV F f 177 z177 134 [some (rf 11 (0)), some (rf 14 (6)), some (.inr (.inl (n82))), none, some (.inl (Int32.ofInt 1)), some (.inl (Int32.ofInt 0)), some (.inr (.inl (((v105) + (v110)) + (v115)))), none, some (.inl (Int32.ofInt 2))] [.inr (.inl (v120)), .inr (.inl (((v105) + (v110)) + (v115)))] σ (w, σ') := h
                                                                            replace h := ei_p h rfl rfl rfl rfl
                                                                            obtain ⟨f, g, h⟩ := h
                                                                            clear g
                                                                            replace h : EV F f 177 z177 135 [some (rf 11 (0)), some (rf 14 (6)), some (.inr (.inl (n82))), none, some (.inl (Int32.ofInt 1)), some (.inl (Int32.ofInt 0)), some (.inr (.inl (((v105) + (v110)) + (v115)))), none, some (.inl (Int32.ofInt 2))] [.inr (.inl ((((v105) + (v110)) + (v115)) + (v120)))] σ (w, σ') := h
                                                                            replace h := ei_p h rfl rfl rfl rfl
                                                                            obtain ⟨f, g, h⟩ := h
                                                                            clear g
                                                                            replace h : EV F f 177 z177 137 [some (rf 11 (0)), some (rf 14 (6)), some (.inr (.inl (n82))), none, some (.inl (Int32.ofInt 1)), some (.inl (Int32.ofInt 0)), some (.inr (.inl ((((v105) + (v110)) + (v115)) + (v120)))), none, some (.inl (Int32.ofInt 2))] [] σ (w, σ') := h
                                                                            obtain ⟨n124, e125⟩ : ∃ s, s = (((v105) + (v110)) + (v115)) + (v120) := ⟨_, rfl⟩
                                                                            rw [← e125] at h
                                                                            refine ⟨n124, e125, ?_⟩
                                                                            replace h : EV F f 177 z177 137 [some (rf 11 (0)), some (rf 14 (6)), some (.inr (.inl (n82))), none, some (.inl (Int32.ofInt 1)), some (.inl (Int32.ofInt 0)), some (.inr (.inl (n124))), none, some (.inl (Int32.ofInt 2))] [] σ (w, σ') := h
                                                                            replace h := ei_p h rfl rfl rfl rfl
                                                                            obtain ⟨f, g, h⟩ := h
                                                                            clear g
                                                                            replace h : EV F f 177 z177 140 [some (rf 11 (0)), some (rf 14 (6)), some (.inr (.inl (n82))), none, some (.inl (Int32.ofInt 1)), some (.inl (Int32.ofInt 0)), some (.inr (.inl (n124))), none, some (.inl ((Int32.ofInt 2) + Int32.ofInt 1))] [] σ (w, σ') := h
                                                                            rw [show (Int32.ofInt 2) + Int32.ofInt 1 = Int32.ofInt 3 from by decide] at h
                                                                            replace h : EV F f 177 z177 140 [some (rf 11 (0)), some (rf 14 (6)), some (.inr (.inl (n82))), none, some (.inl (Int32.ofInt 1)), some (.inl (Int32.ofInt 0)), some (.inr (.inl (n124))), none, some (.inl (Int32.ofInt 3))] [] σ (w, σ') := h
                                                                            replace h := ei_p h rfl rfl rfl rfl
                                                                            obtain ⟨f, g, h⟩ := h
                                                                            clear g
                                                                            replace h : EV F f 177 z177 118 [some (rf 11 (0)), some (rf 14 (6)), some (.inr (.inl (n82))), none, some (.inl (Int32.ofInt 1)), some (.inl (Int32.ofInt 0)), some (.inr (.inl (n124))), none, some (.inl (Int32.ofInt 3))] [] σ (w, σ') := h
                                                                            replace h := ei_p h rfl rfl rfl rfl
                                                                            obtain ⟨f, g, h⟩ := h
                                                                            clear g
                                                                            replace h : EV F f 177 z177 120 [some (rf 11 (0)), some (rf 14 (6)), some (.inr (.inl (n82))), none, some (.inl (Int32.ofInt 1)), some (.inl (Int32.ofInt 0)), some (.inr (.inl (n124))), none, some (.inl (Int32.ofInt 3))] [.inl (Int32.ofInt 3)] σ (w, σ') := h
                                                                            replace h := ei_p h rfl rfl rfl rfl
                                                                            obtain ⟨f, g, h⟩ := h
                                                                            clear g
                                                                            replace h : EV F f 177 z177 121 [some (rf 11 (0)), some (rf 14 (6)), some (.inr (.inl (n82))), none, some (.inl (Int32.ofInt 1)), some (.inl (Int32.ofInt 0)), some (.inr (.inl (n124))), none, some (.inl (Int32.ofInt 3))] [.inl (Int32.ofInt 5), .inl (Int32.ofInt 3)] σ (w, σ') := h
                                                                            replace h := ei_c h rfl rfl rfl
                                                                            rcases h with ⟨hp126, f, g, h⟩ | ⟨hp126, f, g, h⟩
                                                                            · exact absurd (ic_ge.mp hp126) (by decide)
                                                                            · skip
                                                                              clear g
                                                                              replace h : EV F f 177 z177 124 [some (rf 11 (0)), some (rf 14 (6)), some (.inr (.inl (n82))), none, some (.inl (Int32.ofInt 1)), some (.inl (Int32.ofInt 0)), some (.inr (.inl (n124))), none, some (.inl (Int32.ofInt 3))] [] σ (w, σ') := h
                                                                              replace h := ei_p h rfl rfl rfl rfl
                                                                              obtain ⟨f, g, h⟩ := h
                                                                              clear g
                                                                              replace h : EV F f 177 z177 126 [some (rf 11 (0)), some (rf 14 (6)), some (.inr (.inl (n82))), none, some (.inl (Int32.ofInt 1)), some (.inl (Int32.ofInt 0)), some (.inr (.inl (n124))), none, some (.inl (Int32.ofInt 3))] [.inr (.inl (n124))] σ (w, σ') := h
                                                                              replace h := ei_p h rfl rfl rfl rfl
                                                                              obtain ⟨f, g, h⟩ := h
                                                                              clear g
                                                                              replace h : EV F f 177 z177 127 [some (rf 11 (0)), some (rf 14 (6)), some (.inr (.inl (n82))), none, some (.inl (Int32.ofInt 1)), some (.inl (Int32.ofInt 0)), some (.inr (.inl (n124))), none, some (.inl (Int32.ofInt 3))] [rf 11 (0), .inr (.inl (n124))] σ (w, σ') := h
                                                                              replace h := ei_p h rfl rfl rfl rfl
                                                                              obtain ⟨f, g, h⟩ := h
                                                                              clear g
                                                                              replace h : EV F f 177 z177 129 [some (rf 11 (0)), some (rf 14 (6)), some (.inr (.inl (n82))), none, some (.inl (Int32.ofInt 1)), some (.inl (Int32.ofInt 0)), some (.inr (.inl (n124))), none, some (.inl (Int32.ofInt 3))] [.inl (Int32.ofInt 3), rf 11 (0), .inr (.inl (n124))] σ (w, σ') := h
                                                                              replace h := ei_p h rfl rfl rfl rfl
                                                                              obtain ⟨f, g, h⟩ := h
                                                                              clear g
                                                                              replace h : EV F f 177 z177 131 [some (rf 11 (0)), some (rf 14 (6)), some (.inr (.inl (n82))), none, some (.inl (Int32.ofInt 1)), some (.inl (Int32.ofInt 0)), some (.inr (.inl (n124))), none, some (.inl (Int32.ofInt 3))] [.inl (Int32.ofInt 0), .inl (Int32.ofInt 3), rf 11 (0), .inr (.inl (n124))] σ (w, σ') := h
                                                                              replace h := bx_L (ei_v (as := [.inl (Int32.ofInt 0), .inl (Int32.ofInt 3)]) h rfl rfl rfl) z144_at rfl
                                                                              rcases h with ⟨v127, σ128, r129, f, g, h⟩ | ⟨b, σ128, r129, e⟩
                                                                              · skip
                                                                                have er129 := ro2_run rfl r129
                                                                                rw [er129] at h r129
                                                                                clear g
                                                                                have p130 := x144 hs.1 r129
                                                                                refine Or.inl ⟨v127, p130, ?_⟩
                                                                                replace h : EV F f 177 z177 134 [some (rf 11 (0)), some (rf 14 (6)), some (.inr (.inl (n82))), none, some (.inl (Int32.ofInt 1)), some (.inl (Int32.ofInt 0)), some (.inr (.inl (n124))), none, some (.inl (Int32.ofInt 3))] [.inr (.inl (v127)), .inr (.inl (n124))] σ (w, σ') := h
                                                                                replace h := ei_p h rfl rfl rfl rfl
                                                                                obtain ⟨f, g, h⟩ := h
                                                                                clear g
                                                                                replace h : EV F f 177 z177 135 [some (rf 11 (0)), some (rf 14 (6)), some (.inr (.inl (n82))), none, some (.inl (Int32.ofInt 1)), some (.inl (Int32.ofInt 0)), some (.inr (.inl (n124))), none, some (.inl (Int32.ofInt 3))] [.inr (.inl ((n124) + (v127)))] σ (w, σ') := h
                                                                                replace h := ei_p h rfl rfl rfl rfl
                                                                                obtain ⟨f, g, h⟩ := h
                                                                                clear g
                                                                                replace h : EV F f 177 z177 137 [some (rf 11 (0)), some (rf 14 (6)), some (.inr (.inl (n82))), none, some (.inl (Int32.ofInt 1)), some (.inl (Int32.ofInt 0)), some (.inr (.inl ((n124) + (v127)))), none, some (.inl (Int32.ofInt 3))] [] σ (w, σ') := h
                                                                                replace h := ei_p h rfl rfl rfl rfl
                                                                                obtain ⟨f, g, h⟩ := h
                                                                                clear g
                                                                                replace h : EV F f 177 z177 140 [some (rf 11 (0)), some (rf 14 (6)), some (.inr (.inl (n82))), none, some (.inl (Int32.ofInt 1)), some (.inl (Int32.ofInt 0)), some (.inr (.inl ((n124) + (v127)))), none, some (.inl ((Int32.ofInt 3) + Int32.ofInt 1))] [] σ (w, σ') := h
                                                                                rw [show (Int32.ofInt 3) + Int32.ofInt 1 = Int32.ofInt 4 from by decide] at h
                                                                                replace h : EV F f 177 z177 140 [some (rf 11 (0)), some (rf 14 (6)), some (.inr (.inl (n82))), none, some (.inl (Int32.ofInt 1)), some (.inl (Int32.ofInt 0)), some (.inr (.inl ((n124) + (v127)))), none, some (.inl (Int32.ofInt 4))] [] σ (w, σ') := h
                                                                                replace h := ei_p h rfl rfl rfl rfl
                                                                                obtain ⟨f, g, h⟩ := h
                                                                                clear g
                                                                                replace h : EV F f 177 z177 118 [some (rf 11 (0)), some (rf 14 (6)), some (.inr (.inl (n82))), none, some (.inl (Int32.ofInt 1)), some (.inl (Int32.ofInt 0)), some (.inr (.inl ((n124) + (v127)))), none, some (.inl (Int32.ofInt 4))] [] σ (w, σ') := h
                                                                                replace h := ei_p h rfl rfl rfl rfl
                                                                                obtain ⟨f, g, h⟩ := h
                                                                                clear g
                                                                                replace h : EV F f 177 z177 120 [some (rf 11 (0)), some (rf 14 (6)), some (.inr (.inl (n82))), none, some (.inl (Int32.ofInt 1)), some (.inl (Int32.ofInt 0)), some (.inr (.inl ((n124) + (v127)))), none, some (.inl (Int32.ofInt 4))] [.inl (Int32.ofInt 4)] σ (w, σ') := h
                                                                                replace h := ei_p h rfl rfl rfl rfl
                                                                                obtain ⟨f, g, h⟩ := h
                                                                                clear g
                                                                                replace h : EV F f 177 z177 121 [some (rf 11 (0)), some (rf 14 (6)), some (.inr (.inl (n82))), none, some (.inl (Int32.ofInt 1)), some (.inl (Int32.ofInt 0)), some (.inr (.inl ((n124) + (v127)))), none, some (.inl (Int32.ofInt 4))] [.inl (Int32.ofInt 5), .inl (Int32.ofInt 4)] σ (w, σ') := h
                                                                                replace h := ei_c h rfl rfl rfl
                                                                                rcases h with ⟨hp131, f, g, h⟩ | ⟨hp131, f, g, h⟩
                                                                                · exact absurd (ic_ge.mp hp131) (by decide)
                                                                                · skip
                                                                                  clear g
                                                                                  replace h : EV F f 177 z177 124 [some (rf 11 (0)), some (rf 14 (6)), some (.inr (.inl (n82))), none, some (.inl (Int32.ofInt 1)), some (.inl (Int32.ofInt 0)), some (.inr (.inl ((n124) + (v127)))), none, some (.inl (Int32.ofInt 4))] [] σ (w, σ') := h
                                                                                  replace h := ei_p h rfl rfl rfl rfl
                                                                                  obtain ⟨f, g, h⟩ := h
                                                                                  clear g
                                                                                  replace h : EV F f 177 z177 126 [some (rf 11 (0)), some (rf 14 (6)), some (.inr (.inl (n82))), none, some (.inl (Int32.ofInt 1)), some (.inl (Int32.ofInt 0)), some (.inr (.inl ((n124) + (v127)))), none, some (.inl (Int32.ofInt 4))] [.inr (.inl ((n124) + (v127)))] σ (w, σ') := h
                                                                                  replace h := ei_p h rfl rfl rfl rfl
                                                                                  obtain ⟨f, g, h⟩ := h
                                                                                  clear g
                                                                                  replace h : EV F f 177 z177 127 [some (rf 11 (0)), some (rf 14 (6)), some (.inr (.inl (n82))), none, some (.inl (Int32.ofInt 1)), some (.inl (Int32.ofInt 0)), some (.inr (.inl ((n124) + (v127)))), none, some (.inl (Int32.ofInt 4))] [rf 11 (0), .inr (.inl ((n124) + (v127)))] σ (w, σ') := h
                                                                                  replace h := ei_p h rfl rfl rfl rfl
                                                                                  obtain ⟨f, g, h⟩ := h
                                                                                  clear g
                                                                                  replace h : EV F f 177 z177 129 [some (rf 11 (0)), some (rf 14 (6)), some (.inr (.inl (n82))), none, some (.inl (Int32.ofInt 1)), some (.inl (Int32.ofInt 0)), some (.inr (.inl ((n124) + (v127)))), none, some (.inl (Int32.ofInt 4))] [.inl (Int32.ofInt 4), rf 11 (0), .inr (.inl ((n124) + (v127)))] σ (w, σ') := h
                                                                                  replace h := ei_p h rfl rfl rfl rfl
                                                                                  obtain ⟨f, g, h⟩ := h
                                                                                  clear g
                                                                                  replace h : EV F f 177 z177 131 [some (rf 11 (0)), some (rf 14 (6)), some (.inr (.inl (n82))), none, some (.inl (Int32.ofInt 1)), some (.inl (Int32.ofInt 0)), some (.inr (.inl ((n124) + (v127)))), none, some (.inl (Int32.ofInt 4))] [.inl (Int32.ofInt 0), .inl (Int32.ofInt 4), rf 11 (0), .inr (.inl ((n124) + (v127)))] σ (w, σ') := h
                                                                                  replace h := bx_L (ei_v (as := [.inl (Int32.ofInt 0), .inl (Int32.ofInt 4)]) h rfl rfl rfl) z144_at rfl
                                                                                  rcases h with ⟨v132, σ133, r134, f, g, h⟩ | ⟨b, σ133, r134, e⟩
                                                                                  · skip
                                                                                    have er134 := ro2_run rfl r134
                                                                                    rw [er134] at h r134
                                                                                    clear g
                                                                                    have p135 := x144 hs.1 r134
                                                                                    refine Or.inl ⟨v132, p135, ?_⟩
                                                                                    replace h : EV F f 177 z177 134 [some (rf 11 (0)), some (rf 14 (6)), some (.inr (.inl (n82))), none, some (.inl (Int32.ofInt 1)), some (.inl (Int32.ofInt 0)), some (.inr (.inl ((n124) + (v127)))), none, some (.inl (Int32.ofInt 4))] [.inr (.inl (v132)), .inr (.inl ((n124) + (v127)))] σ (w, σ') := h
                                                                                    replace h := ei_p h rfl rfl rfl rfl
                                                                                    obtain ⟨f, g, h⟩ := h
                                                                                    clear g
                                                                                    replace h : EV F f 177 z177 135 [some (rf 11 (0)), some (rf 14 (6)), some (.inr (.inl (n82))), none, some (.inl (Int32.ofInt 1)), some (.inl (Int32.ofInt 0)), some (.inr (.inl ((n124) + (v127)))), none, some (.inl (Int32.ofInt 4))] [.inr (.inl (((n124) + (v127)) + (v132)))] σ (w, σ') := h
                                                                                    replace h := ei_p h rfl rfl rfl rfl
                                                                                    obtain ⟨f, g, h⟩ := h
                                                                                    clear g
                                                                                    replace h : EV F f 177 z177 137 [some (rf 11 (0)), some (rf 14 (6)), some (.inr (.inl (n82))), none, some (.inl (Int32.ofInt 1)), some (.inl (Int32.ofInt 0)), some (.inr (.inl (((n124) + (v127)) + (v132)))), none, some (.inl (Int32.ofInt 4))] [] σ (w, σ') := h
                                                                                    replace h := ei_p h rfl rfl rfl rfl
                                                                                    obtain ⟨f, g, h⟩ := h
                                                                                    clear g
                                                                                    replace h : EV F f 177 z177 140 [some (rf 11 (0)), some (rf 14 (6)), some (.inr (.inl (n82))), none, some (.inl (Int32.ofInt 1)), some (.inl (Int32.ofInt 0)), some (.inr (.inl (((n124) + (v127)) + (v132)))), none, some (.inl ((Int32.ofInt 4) + Int32.ofInt 1))] [] σ (w, σ') := h
                                                                                    rw [show (Int32.ofInt 4) + Int32.ofInt 1 = Int32.ofInt 5 from by decide] at h
                                                                                    replace h : EV F f 177 z177 140 [some (rf 11 (0)), some (rf 14 (6)), some (.inr (.inl (n82))), none, some (.inl (Int32.ofInt 1)), some (.inl (Int32.ofInt 0)), some (.inr (.inl (((n124) + (v127)) + (v132)))), none, some (.inl (Int32.ofInt 5))] [] σ (w, σ') := h
                                                                                    replace h := ei_p h rfl rfl rfl rfl
                                                                                    obtain ⟨f, g, h⟩ := h
                                                                                    clear g
                                                                                    replace h : EV F f 177 z177 118 [some (rf 11 (0)), some (rf 14 (6)), some (.inr (.inl (n82))), none, some (.inl (Int32.ofInt 1)), some (.inl (Int32.ofInt 0)), some (.inr (.inl (((n124) + (v127)) + (v132)))), none, some (.inl (Int32.ofInt 5))] [] σ (w, σ') := h
                                                                                    replace h := ei_p h rfl rfl rfl rfl
                                                                                    obtain ⟨f, g, h⟩ := h
                                                                                    clear g
                                                                                    replace h : EV F f 177 z177 120 [some (rf 11 (0)), some (rf 14 (6)), some (.inr (.inl (n82))), none, some (.inl (Int32.ofInt 1)), some (.inl (Int32.ofInt 0)), some (.inr (.inl (((n124) + (v127)) + (v132)))), none, some (.inl (Int32.ofInt 5))] [.inl (Int32.ofInt 5)] σ (w, σ') := h
                                                                                    replace h := ei_p h rfl rfl rfl rfl
                                                                                    obtain ⟨f, g, h⟩ := h
                                                                                    clear g
                                                                                    replace h : EV F f 177 z177 121 [some (rf 11 (0)), some (rf 14 (6)), some (.inr (.inl (n82))), none, some (.inl (Int32.ofInt 1)), some (.inl (Int32.ofInt 0)), some (.inr (.inl (((n124) + (v127)) + (v132)))), none, some (.inl (Int32.ofInt 5))] [.inl (Int32.ofInt 5), .inl (Int32.ofInt 5)] σ (w, σ') := h
                                                                                    replace h := ei_c h rfl rfl rfl
                                                                                    rcases h with ⟨hp136, f, g, h⟩ | ⟨hp136, f, g, h⟩
                                                                                    · skip
                                                                                      clear g
                                                                                      replace h : EV F f 177 z177 143 [some (rf 11 (0)), some (rf 14 (6)), some (.inr (.inl (n82))), none, some (.inl (Int32.ofInt 1)), some (.inl (Int32.ofInt 0)), some (.inr (.inl (((n124) + (v127)) + (v132)))), none, some (.inl (Int32.ofInt 5))] [] σ (w, σ') := h
                                                                                      replace h := ei_p h rfl rfl rfl rfl
                                                                                      obtain ⟨f, g, h⟩ := h
                                                                                      clear g
                                                                                      replace h : EV F f 177 z177 145 [some (rf 11 (0)), some (rf 14 (6)), some (.inr (.inl (n82))), none, some (.inl (Int32.ofInt 1)), some (.inl (Int32.ofInt 0)), some (.inr (.inl (((n124) + (v127)) + (v132)))), none, some (.inl (Int32.ofInt 5))] [.inr (.inl (((n124) + (v127)) + (v132)))] σ (w, σ') := h
                                                                                      replace h := ei_p h rfl rfl rfl rfl
                                                                                      obtain ⟨f, g, h⟩ := h
                                                                                      clear g
                                                                                      replace h : EV F f 177 z177 146 [some (rf 11 (0)), some (rf 14 (6)), some (.inr (.inl (n82))), none, some (.inl (Int32.ofInt 1)), some (.inl (Int32.ofInt 0)), some (.inr (.inl (((n124) + (v127)) + (v132)))), none, some (.inl (Int32.ofInt 5))] [.inr (.inl (Int64.ofNat 0)), .inr (.inl (((n124) + (v127)) + (v132)))] σ (w, σ') := h
                                                                                      replace h := ei_p h rfl rfl rfl rfl
                                                                                      obtain ⟨f, g, h⟩ := h
                                                                                      clear g
                                                                                      replace h : EV F f 177 z177 147 [some (rf 11 (0)), some (rf 14 (6)), some (.inr (.inl (n82))), none, some (.inl (Int32.ofInt 1)), some (.inl (Int32.ofInt 0)), some (.inr (.inl (((n124) + (v127)) + (v132)))), none, some (.inl (Int32.ofInt 5))] [.inl (lg_cmp (((n124) + (v127)) + (v132)) (Int64.ofNat 0))] σ (w, σ') := h
                                                                                      replace h := ei_c h rfl rfl rfl
                                                                                      rcases h with ⟨hp137, f, g, h⟩ | ⟨hp137, f, g, h⟩
                                                                                      · skip
                                                                                        replace hp137 : (((n124) + (v127)) + (v132)).toInt ≠ (Int64.ofNat 0).toInt := (ab_lc .ne _ _).mp hp137
                                                                                        refine Or.inl ⟨hp137, ?_⟩
                                                                                        clear g
                                                                                        replace h : EV F f 177 z177 154 [some (rf 11 (0)), some (rf 14 (6)), some (.inr (.inl (n82))), none, some (.inl (Int32.ofInt 1)), some (.inl (Int32.ofInt 0)), some (.inr (.inl (((n124) + (v127)) + (v132)))), none, some (.inl (Int32.ofInt 5))] [] σ (w, σ') := h
                                                                                        replace h := ei_p h rfl rfl rfl rfl
                                                                                        obtain ⟨f, g, h⟩ := h
                                                                                        clear g
                                                                                        replace h : EV F f 177 z177 155 [some (rf 11 (0)), some (rf 14 (6)), some (.inr (.inl (n82))), none, some (.inl (Int32.ofInt 1)), some (.inl (Int32.ofInt 0)), some (.inr (.inl (((n124) + (v127)) + (v132)))), none, some (.inl (Int32.ofInt 5))] [.inl (Int32.ofInt 0)] σ (w, σ') := h
                                                                                        replace h := ei_p h rfl rfl rfl rfl
                                                                                        obtain ⟨f, g, h⟩ := h
                                                                                        clear g
                                                                                        replace h : EV F f 177 z177 157 [some (rf 11 (0)), some (rf 14 (6)), some (.inr (.inl (n82))), none, some (.inl (Int32.ofInt 0)), some (.inl (Int32.ofInt 0)), some (.inr (.inl (((n124) + (v127)) + (v132)))), none, some (.inl (Int32.ofInt 5))] [] σ (w, σ') := h
                                                                                        replace h := ei_p h rfl rfl rfl rfl
                                                                                        obtain ⟨f, g, h⟩ := h
                                                                                        clear g
                                                                                        replace h : EV F f 177 z177 160 [some (rf 11 (0)), some (rf 14 (6)), some (.inr (.inl (n82))), none, some (.inl (Int32.ofInt 0)), some (.inl ((Int32.ofInt 0) + Int32.ofInt 1)), some (.inr (.inl (((n124) + (v127)) + (v132)))), none, some (.inl (Int32.ofInt 5))] [] σ (w, σ') := h
                                                                                        rw [show (Int32.ofInt 0) + Int32.ofInt 1 = Int32.ofInt 1 from by decide] at h
                                                                                        replace h : EV F f 177 z177 160 [some (rf 11 (0)), some (rf 14 (6)), some (.inr (.inl (n82))), none, some (.inl (Int32.ofInt 0)), some (.inl (Int32.ofInt 1)), some (.inr (.inl (((n124) + (v127)) + (v132)))), none, some (.inl (Int32.ofInt 5))] [] σ (w, σ') := h
                                                                                        replace h := ei_p h rfl rfl rfl rfl
                                                                                        obtain ⟨f, g, h⟩ := h
                                                                                        clear g
                                                                                        replace h : EV F f 177 z177 95 [some (rf 11 (0)), some (rf 14 (6)), some (.inr (.inl (n82))), none, some (.inl (Int32.ofInt 0)), some (.inl (Int32.ofInt 1)), some (.inr (.inl (((n124) + (v127)) + (v132)))), none, some (.inl (Int32.ofInt 5))] [] σ (w, σ') := h
                                                                                        replace h := ei_p h rfl rfl rfl rfl
                                                                                        obtain ⟨f, g, h⟩ := h
                                                                                        clear g
                                                                                        replace h : EV F f 177 z177 97 [some (rf 11 (0)), some (rf 14 (6)), some (.inr (.inl (n82))), none, some (.inl (Int32.ofInt 0)), some (.inl (Int32.ofInt 1)), some (.inr (.inl (((n124) + (v127)) + (v132)))), none, some (.inl (Int32.ofInt 5))] [.inl (Int32.ofInt 1)] σ (w, σ') := h
                                                                                        replace h := ei_p h rfl rfl rfl rfl
                                                                                        obtain ⟨f, g, h⟩ := h
                                                                                        clear g
                                                                                        replace h : EV F f 177 z177 98 [some (rf 11 (0)), some (rf 14 (6)), some (.inr (.inl (n82))), none, some (.inl (Int32.ofInt 0)), some (.inl (Int32.ofInt 1)), some (.inr (.inl (((n124) + (v127)) + (v132)))), none, some (.inl (Int32.ofInt 5))] [.inl (Int32.ofInt 3), .inl (Int32.ofInt 1)] σ (w, σ') := h
                                                                                        replace h := ei_c h rfl rfl rfl
                                                                                        rcases h with ⟨hp138, f, g, h⟩ | ⟨hp138, f, g, h⟩
                                                                                        · exact absurd (ic_ge.mp hp138) (by decide)
                                                                                        · skip
                                                                                          clear g
                                                                                          replace h : EV F f 177 z177 101 [some (rf 11 (0)), some (rf 14 (6)), some (.inr (.inl (n82))), none, some (.inl (Int32.ofInt 0)), some (.inl (Int32.ofInt 1)), some (.inr (.inl (((n124) + (v127)) + (v132)))), none, some (.inl (Int32.ofInt 5))] [] σ (w, σ') := h
                                                                                          replace h := ei_p h rfl rfl rfl rfl
                                                                                          obtain ⟨f, g, h⟩ := h
                                                                                          clear g
                                                                                          replace h : EV F f 177 z177 103 [some (rf 11 (0)), some (rf 14 (6)), some (.inr (.inl (n82))), none, some (.inl (Int32.ofInt 0)), some (.inl (Int32.ofInt 1)), some (.inr (.inl (((n124) + (v127)) + (v132)))), none, some (.inl (Int32.ofInt 5))] [.inl (Int32.ofInt 0)] σ (w, σ') := h
                                                                                          replace h := ei_c h rfl rfl rfl
                                                                                          rcases h with ⟨hp139, f, g, h⟩ | ⟨hp139, f, g, h⟩
                                                                                          · skip
                                                                                            clear g
                                                                                            replace h : EV F f 177 z177 163 [some (rf 11 (0)), some (rf 14 (6)), some (.inr (.inl (n82))), none, some (.inl (Int32.ofInt 0)), some (.inl (Int32.ofInt 1)), some (.inr (.inl (((n124) + (v127)) + (v132)))), none, some (.inl (Int32.ofInt 5))] [] σ (w, σ') := h
                                                                                            replace h := ei_p h rfl rfl rfl rfl
                                                                                            obtain ⟨f, g, h⟩ := h
                                                                                            clear g
                                                                                            replace h : EV F f 177 z177 165 [some (rf 11 (0)), some (rf 14 (6)), some (.inr (.inl (n82))), none, some (.inl (Int32.ofInt 0)), some (.inl (Int32.ofInt 1)), some (.inr (.inl (((n124) + (v127)) + (v132)))), none, some (.inl (Int32.ofInt 5))] [.inl (Int32.ofInt 0)] σ (w, σ') := h
                                                                                            have e := ei_iret h rfl
                                                                                            cases e
                                                                                            exact ⟨rfl, rfl⟩
                                                                                          · exact absurd (ic_eq.mpr (by decide)) hp139
                                                                                      · skip
                                                                                        replace hp137 : ¬ ((((n124) + (v127)) + (v132)).toInt ≠ (Int64.ofNat 0).toInt) := (not_congr (ab_lc .ne _ _)).mp hp137
                                                                                        refine Or.inr ⟨hp137, ?_⟩
                                                                                        clear g
                                                                                        replace h : EV F f 177 z177 150 [some (rf 11 (0)), some (rf 14 (6)), some (.inr (.inl (n82))), none, some (.inl (Int32.ofInt 1)), some (.inl (Int32.ofInt 0)), some (.inr (.inl (((n124) + (v127)) + (v132)))), none, some (.inl (Int32.ofInt 5))] [] σ (w, σ') := h
                                                                                        replace h := ei_p h rfl rfl rfl rfl
                                                                                        obtain ⟨f, g, h⟩ := h
                                                                                        clear g
                                                                                        replace h : EV F f 177 z177 151 [some (rf 11 (0)), some (rf 14 (6)), some (.inr (.inl (n82))), none, some (.inl (Int32.ofInt 1)), some (.inl (Int32.ofInt 0)), some (.inr (.inl (((n124) + (v127)) + (v132)))), none, some (.inl (Int32.ofInt 5))] [.inl (Int32.ofInt 1)] σ (w, σ') := h
                                                                                        replace h := ei_p h rfl rfl rfl rfl
                                                                                        obtain ⟨f, g, h⟩ := h
                                                                                        clear g
                                                                                        replace h : EV F f 177 z177 155 [some (rf 11 (0)), some (rf 14 (6)), some (.inr (.inl (n82))), none, some (.inl (Int32.ofInt 1)), some (.inl (Int32.ofInt 0)), some (.inr (.inl (((n124) + (v127)) + (v132)))), none, some (.inl (Int32.ofInt 5))] [.inl (Int32.ofInt 1)] σ (w, σ') := h
                                                                                        replace h := ei_p h rfl rfl rfl rfl
                                                                                        obtain ⟨f, g, h⟩ := h
                                                                                        clear g
                                                                                        replace h : EV F f 177 z177 157 [some (rf 11 (0)), some (rf 14 (6)), some (.inr (.inl (n82))), none, some (.inl (Int32.ofInt 1)), some (.inl (Int32.ofInt 0)), some (.inr (.inl (((n124) + (v127)) + (v132)))), none, some (.inl (Int32.ofInt 5))] [] σ (w, σ') := h
                                                                                        replace h := ei_p h rfl rfl rfl rfl
                                                                                        obtain ⟨f, g, h⟩ := h
                                                                                        clear g
                                                                                        replace h : EV F f 177 z177 160 [some (rf 11 (0)), some (rf 14 (6)), some (.inr (.inl (n82))), none, some (.inl (Int32.ofInt 1)), some (.inl ((Int32.ofInt 0) + Int32.ofInt 1)), some (.inr (.inl (((n124) + (v127)) + (v132)))), none, some (.inl (Int32.ofInt 5))] [] σ (w, σ') := h
                                                                                        rw [show (Int32.ofInt 0) + Int32.ofInt 1 = Int32.ofInt 1 from by decide] at h
                                                                                        replace h : EV F f 177 z177 160 [some (rf 11 (0)), some (rf 14 (6)), some (.inr (.inl (n82))), none, some (.inl (Int32.ofInt 1)), some (.inl (Int32.ofInt 1)), some (.inr (.inl (((n124) + (v127)) + (v132)))), none, some (.inl (Int32.ofInt 5))] [] σ (w, σ') := h
                                                                                        replace h := ei_p h rfl rfl rfl rfl
                                                                                        obtain ⟨f, g, h⟩ := h
                                                                                        clear g
                                                                                        replace h : EV F f 177 z177 95 [some (rf 11 (0)), some (rf 14 (6)), some (.inr (.inl (n82))), none, some (.inl (Int32.ofInt 1)), some (.inl (Int32.ofInt 1)), some (.inr (.inl (((n124) + (v127)) + (v132)))), none, some (.inl (Int32.ofInt 5))] [] σ (w, σ') := h
                                                                                        replace h := ei_p h rfl rfl rfl rfl
                                                                                        obtain ⟨f, g, h⟩ := h
                                                                                        clear g
                                                                                        replace h : EV F f 177 z177 97 [some (rf 11 (0)), some (rf 14 (6)), some (.inr (.inl (n82))), none, some (.inl (Int32.ofInt 1)), some (.inl (Int32.ofInt 1)), some (.inr (.inl (((n124) + (v127)) + (v132)))), none, some (.inl (Int32.ofInt 5))] [.inl (Int32.ofInt 1)] σ (w, σ') := h
                                                                                        replace h := ei_p h rfl rfl rfl rfl
                                                                                        obtain ⟨f, g, h⟩ := h
                                                                                        clear g
                                                                                        replace h : EV F f 177 z177 98 [some (rf 11 (0)), some (rf 14 (6)), some (.inr (.inl (n82))), none, some (.inl (Int32.ofInt 1)), some (.inl (Int32.ofInt 1)), some (.inr (.inl (((n124) + (v127)) + (v132)))), none, some (.inl (Int32.ofInt 5))] [.inl (Int32.ofInt 3), .inl (Int32.ofInt 1)] σ (w, σ') := h
                                                                                        replace h := ei_c h rfl rfl rfl
                                                                                        rcases h with ⟨hp140, f, g, h⟩ | ⟨hp140, f, g, h⟩
                                                                                        · exact absurd (ic_ge.mp hp140) (by decide)
                                                                                        · skip
                                                                                          clear g
                                                                                          replace h : EV F f 177 z177 101 [some (rf 11 (0)), some (rf 14 (6)), some (.inr (.inl (n82))), none, some (.inl (Int32.ofInt 1)), some (.inl (Int32.ofInt 1)), some (.inr (.inl (((n124) + (v127)) + (v132)))), none, some (.inl (Int32.ofInt 5))] [] σ (w, σ') := h
                                                                                          replace h := ei_p h rfl rfl rfl rfl
                                                                                          obtain ⟨f, g, h⟩ := h
                                                                                          clear g
                                                                                          replace h : EV F f 177 z177 103 [some (rf 11 (0)), some (rf 14 (6)), some (.inr (.inl (n82))), none, some (.inl (Int32.ofInt 1)), some (.inl (Int32.ofInt 1)), some (.inr (.inl (((n124) + (v127)) + (v132)))), none, some (.inl (Int32.ofInt 5))] [.inl (Int32.ofInt 1)] σ (w, σ') := h
                                                                                          replace h := ei_c h rfl rfl rfl
                                                                                          rcases h with ⟨hp141, f, g, h⟩ | ⟨hp141, f, g, h⟩
                                                                                          · exact absurd (ic_eq.mp hp141) (by decide)
                                                                                          · skip
                                                                                            clear g
                                                                                            replace h : EV F f 177 z177 106 [some (rf 11 (0)), some (rf 14 (6)), some (.inr (.inl (n82))), none, some (.inl (Int32.ofInt 1)), some (.inl (Int32.ofInt 1)), some (.inr (.inl (((n124) + (v127)) + (v132)))), none, some (.inl (Int32.ofInt 5))] [] σ (w, σ') := h
                                                                                            replace h := ei_p h rfl rfl rfl rfl
                                                                                            obtain ⟨f, g, h⟩ := h
                                                                                            clear g
                                                                                            replace h : EV F f 177 z177 107 [some (rf 11 (0)), some (rf 14 (6)), some (.inr (.inl (n82))), none, some (.inl (Int32.ofInt 1)), some (.inl (Int32.ofInt 1)), some (.inr (.inl (((n124) + (v127)) + (v132)))), none, some (.inl (Int32.ofInt 5))] [rf 11 (0)] σ (w, σ') := h
                                                                                            replace h := ei_p h rfl rfl rfl rfl
                                                                                            obtain ⟨f, g, h⟩ := h
                                                                                            clear g
                                                                                            replace h : EV F f 177 z177 108 [some (rf 11 (0)), some (rf 14 (6)), some (.inr (.inl (n82))), none, some (.inl (Int32.ofInt 1)), some (.inl (Int32.ofInt 1)), some (.inr (.inl (((n124) + (v127)) + (v132)))), none, some (.inl (Int32.ofInt 5))] [.inl (Int32.ofInt (-1)), rf 11 (0)] σ (w, σ') := h
                                                                                            replace h := ei_p h rfl rfl rfl rfl
                                                                                            obtain ⟨f, g, h⟩ := h
                                                                                            clear g
                                                                                            replace h : EV F f 177 z177 110 [some (rf 11 (0)), some (rf 14 (6)), some (.inr (.inl (n82))), none, some (.inl (Int32.ofInt 1)), some (.inl (Int32.ofInt 1)), some (.inr (.inl (((n124) + (v127)) + (v132)))), none, some (.inl (Int32.ofInt 5))] [.inl (Int32.ofInt 1), .inl (Int32.ofInt (-1)), rf 11 (0)] σ (w, σ') := h
                                                                                            replace h := bx_L (ei_v (as := [.inl (Int32.ofInt 1), .inl (Int32.ofInt (-1))]) h rfl rfl rfl) z144_at rfl
                                                                                            rcases h with ⟨v142, σ143, r144, f, g, h⟩ | ⟨b, σ143, r144, e⟩
                                                                                            · skip
                                                                                              have er144 := ro2_run rfl r144
                                                                                              rw [er144] at h r144
                                                                                              clear g
                                                                                              have p145 := x144 hs.1 r144
                                                                                              refine Or.inl ⟨v142, p145, ?_⟩
                                                                                              replace h : EV F f 177 z177 113 [some (rf 11 (0)), some (rf 14 (6)), some (.inr (.inl (n82))), none, some (.inl (Int32.ofInt 1)), some (.inl (Int32.ofInt 1)), some (.inr (.inl (((n124) + (v127)) + (v132)))), none, some (.inl (Int32.ofInt 5))] [.inr (.inl (v142))] σ (w, σ') := h
                                                                                              replace h := ei_p h rfl rfl rfl rfl
                                                                                              obtain ⟨f, g, h⟩ := h
                                                                                              clear g
                                                                                              replace h : EV F f 177 z177 115 [some (rf 11 (0)), some (rf 14 (6)), some (.inr (.inl (n82))), none, some (.inl (Int32.ofInt 1)), some (.inl (Int32.ofInt 1)), some (.inr (.inl (v142))), none, some (.inl (Int32.ofInt 5))] [] σ (w, σ') := h
                                                                                              replace h := ei_p h rfl rfl rfl rfl
                                                                                              obtain ⟨f, g, h⟩ := h
                                                                                              clear g
                                                                                              replace h : EV F f 177 z177 116 [some (rf 11 (0)), some (rf 14 (6)), some (.inr (.inl (n82))), none, some (.inl (Int32.ofInt 1)), some (.inl (Int32.ofInt 1)), some (.inr (.inl (v142))), none, some (.inl (Int32.ofInt 5))] [.inl (Int32.ofInt 0)] σ (w, σ') := h
                                                                                              replace h := ei_p h rfl rfl rfl rfl
                                                                                              obtain ⟨f, g, h⟩ := h
                                                                                              clear g
                                                                                              replace h : EV F f 177 z177 118 [some (rf 11 (0)), some (rf 14 (6)), some (.inr (.inl (n82))), none, some (.inl (Int32.ofInt 1)), some (.inl (Int32.ofInt 1)), some (.inr (.inl (v142))), none, some (.inl (Int32.ofInt 0))] [] σ (w, σ') := h
                                                                                              replace h := ei_p h rfl rfl rfl rfl
                                                                                              obtain ⟨f, g, h⟩ := h
                                                                                              clear g
                                                                                              replace h : EV F f 177 z177 120 [some (rf 11 (0)), some (rf 14 (6)), some (.inr (.inl (n82))), none, some (.inl (Int32.ofInt 1)), some (.inl (Int32.ofInt 1)), some (.inr (.inl (v142))), none, some (.inl (Int32.ofInt 0))] [.inl (Int32.ofInt 0)] σ (w, σ') := h
                                                                                              replace h := ei_p h rfl rfl rfl rfl
                                                                                              obtain ⟨f, g, h⟩ := h
                                                                                              clear g
                                                                                              replace h : EV F f 177 z177 121 [some (rf 11 (0)), some (rf 14 (6)), some (.inr (.inl (n82))), none, some (.inl (Int32.ofInt 1)), some (.inl (Int32.ofInt 1)), some (.inr (.inl (v142))), none, some (.inl (Int32.ofInt 0))] [.inl (Int32.ofInt 5), .inl (Int32.ofInt 0)] σ (w, σ') := h
                                                                                              replace h := ei_c h rfl rfl rfl
                                                                                              rcases h with ⟨hp146, f, g, h⟩ | ⟨hp146, f, g, h⟩
                                                                                              · exact absurd (ic_ge.mp hp146) (by decide)
                                                                                              · skip
                                                                                                clear g
                                                                                                replace h : EV F f 177 z177 124 [some (rf 11 (0)), some (rf 14 (6)), some (.inr (.inl (n82))), none, some (.inl (Int32.ofInt 1)), some (.inl (Int32.ofInt 1)), some (.inr (.inl (v142))), none, some (.inl (Int32.ofInt 0))] [] σ (w, σ') := h
                                                                                                replace h := ei_p h rfl rfl rfl rfl
                                                                                                obtain ⟨f, g, h⟩ := h
                                                                                                clear g
                                                                                                replace h : EV F f 177 z177 126 [some (rf 11 (0)), some (rf 14 (6)), some (.inr (.inl (n82))), none, some (.inl (Int32.ofInt 1)), some (.inl (Int32.ofInt 1)), some (.inr (.inl (v142))), none, some (.inl (Int32.ofInt 0))] [.inr (.inl (v142))] σ (w, σ') := h
                                                                                                replace h := ei_p h rfl rfl rfl rfl
                                                                                                obtain ⟨f, g, h⟩ := h
                                                                                                clear g
                                                                                                replace h : EV F f 177 z177 127 [some (rf 11 (0)), some (rf 14 (6)), some (.inr (.inl (n82))), none, some (.inl (Int32.ofInt 1)), some (.inl (Int32.ofInt 1)), some (.inr (.inl (v142))), none, some (.inl (Int32.ofInt 0))] [rf 11 (0), .inr (.inl (v142))] σ (w, σ') := h
                                                                                                replace h := ei_p h rfl rfl rfl rfl
                                                                                                obtain ⟨f, g, h⟩ := h
                                                                                                clear g
                                                                                                replace h : EV F f 177 z177 129 [some (rf 11 (0)), some (rf 14 (6)), some (.inr (.inl (n82))), none, some (.inl (Int32.ofInt 1)), some (.inl (Int32.ofInt 1)), some (.inr (.inl (v142))), none, some (.inl (Int32.ofInt 0))] [.inl (Int32.ofInt 0), rf 11 (0), .inr (.inl (v142))] σ (w, σ') := h
                                                                                                replace h := ei_p h rfl rfl rfl rfl
                                                                                                obtain ⟨f, g, h⟩ := h
                                                                                                clear g
                                                                                                replace h : EV F f 177 z177 131 [some (rf 11 (0)), some (rf 14 (6)), some (.inr (.inl (n82))), none, some (.inl (Int32.ofInt 1)), some (.inl (Int32.ofInt 1)), some (.inr (.inl (v142))), none, some (.inl (Int32.ofInt 0))] [.inl (Int32.ofInt 1), .inl (Int32.ofInt 0), rf 11 (0), .inr (.inl (v142))] σ (w, σ') := h
                                                                                                replace h := bx_L (ei_v (as := [.inl (Int32.ofInt 1), .inl (Int32.ofInt 0)]) h rfl rfl rfl) z144_at rfl
                                                                                                rcases h with ⟨v147, σ148, r149, f, g, h⟩ | ⟨b, σ148, r149, e⟩
                                                                                                · skip
                                                                                                  have er149 := ro2_run rfl r149
                                                                                                  rw [er149] at h r149
                                                                                                  clear g
                                                                                                  have p150 := x144 hs.1 r149
                                                                                                  refine Or.inl ⟨v147, p150, ?_⟩
                                                                                                  replace h : EV F f 177 z177 134 [some (rf 11 (0)), some (rf 14 (6)), some (.inr (.inl (n82))), none, some (.inl (Int32.ofInt 1)), some (.inl (Int32.ofInt 1)), some (.inr (.inl (v142))), none, some (.inl (Int32.ofInt 0))] [.inr (.inl (v147)), .inr (.inl (v142))] σ (w, σ') := h
                                                                                                  replace h := ei_p h rfl rfl rfl rfl
                                                                                                  obtain ⟨f, g, h⟩ := h
                                                                                                  clear g
                                                                                                  replace h : EV F f 177 z177 135 [some (rf 11 (0)), some (rf 14 (6)), some (.inr (.inl (n82))), none, some (.inl (Int32.ofInt 1)), some (.inl (Int32.ofInt 1)), some (.inr (.inl (v142))), none, some (.inl (Int32.ofInt 0))] [.inr (.inl ((v142) + (v147)))] σ (w, σ') := h
                                                                                                  replace h := ei_p h rfl rfl rfl rfl
                                                                                                  obtain ⟨f, g, h⟩ := h
                                                                                                  clear g
                                                                                                  replace h : EV F f 177 z177 137 [some (rf 11 (0)), some (rf 14 (6)), some (.inr (.inl (n82))), none, some (.inl (Int32.ofInt 1)), some (.inl (Int32.ofInt 1)), some (.inr (.inl ((v142) + (v147)))), none, some (.inl (Int32.ofInt 0))] [] σ (w, σ') := h
                                                                                                  replace h := ei_p h rfl rfl rfl rfl
                                                                                                  obtain ⟨f, g, h⟩ := h
                                                                                                  clear g
                                                                                                  replace h : EV F f 177 z177 140 [some (rf 11 (0)), some (rf 14 (6)), some (.inr (.inl (n82))), none, some (.inl (Int32.ofInt 1)), some (.inl (Int32.ofInt 1)), some (.inr (.inl ((v142) + (v147)))), none, some (.inl ((Int32.ofInt 0) + Int32.ofInt 1))] [] σ (w, σ') := h
                                                                                                  rw [show (Int32.ofInt 0) + Int32.ofInt 1 = Int32.ofInt 1 from by decide] at h
                                                                                                  replace h : EV F f 177 z177 140 [some (rf 11 (0)), some (rf 14 (6)), some (.inr (.inl (n82))), none, some (.inl (Int32.ofInt 1)), some (.inl (Int32.ofInt 1)), some (.inr (.inl ((v142) + (v147)))), none, some (.inl (Int32.ofInt 1))] [] σ (w, σ') := h
                                                                                                  replace h := ei_p h rfl rfl rfl rfl
                                                                                                  obtain ⟨f, g, h⟩ := h
                                                                                                  clear g
                                                                                                  replace h : EV F f 177 z177 118 [some (rf 11 (0)), some (rf 14 (6)), some (.inr (.inl (n82))), none, some (.inl (Int32.ofInt 1)), some (.inl (Int32.ofInt 1)), some (.inr (.inl ((v142) + (v147)))), none, some (.inl (Int32.ofInt 1))] [] σ (w, σ') := h
                                                                                                  replace h := ei_p h rfl rfl rfl rfl
                                                                                                  obtain ⟨f, g, h⟩ := h
                                                                                                  clear g
                                                                                                  replace h : EV F f 177 z177 120 [some (rf 11 (0)), some (rf 14 (6)), some (.inr (.inl (n82))), none, some (.inl (Int32.ofInt 1)), some (.inl (Int32.ofInt 1)), some (.inr (.inl ((v142) + (v147)))), none, some (.inl (Int32.ofInt 1))] [.inl (Int32.ofInt 1)] σ (w, σ') := h
                                                                                                  replace h := ei_p h rfl rfl rfl rfl
                                                                                                  obtain ⟨f, g, h⟩ := h
                                                                                                  clear g
                                                                                                  replace h : EV F f 177 z177 121 [some (rf 11 (0)), some (rf 14 (6)), some (.inr (.inl (n82))), none, some (.inl (Int32.ofInt 1)), some (.inl (Int32.ofInt 1)), some (.inr (.inl ((v142) + (v147)))), none, some (.inl (Int32.ofInt 1))] [.inl (Int32.ofInt 5), .inl (Int32.ofInt 1)] σ (w, σ') := h
                                                                                                  replace h := ei_c h rfl rfl rfl
                                                                                                  rcases h with ⟨hp151, f, g, h⟩ | ⟨hp151, f, g, h⟩
                                                                                                  · exact absurd (ic_ge.mp hp151) (by decide)
                                                                                                  · skip
                                                                                                    clear g
                                                                                                    replace h : EV F f 177 z177 124 [some (rf 11 (0)), some (rf 14 (6)), some (.inr (.inl (n82))), none, some (.inl (Int32.ofInt 1)), some (.inl (Int32.ofInt 1)), some (.inr (.inl ((v142) + (v147)))), none, some (.inl (Int32.ofInt 1))] [] σ (w, σ') := h
                                                                                                    replace h := ei_p h rfl rfl rfl rfl
                                                                                                    obtain ⟨f, g, h⟩ := h
                                                                                                    clear g
                                                                                                    replace h : EV F f 177 z177 126 [some (rf 11 (0)), some (rf 14 (6)), some (.inr (.inl (n82))), none, some (.inl (Int32.ofInt 1)), some (.inl (Int32.ofInt 1)), some (.inr (.inl ((v142) + (v147)))), none, some (.inl (Int32.ofInt 1))] [.inr (.inl ((v142) + (v147)))] σ (w, σ') := h
                                                                                                    replace h := ei_p h rfl rfl rfl rfl
                                                                                                    obtain ⟨f, g, h⟩ := h
                                                                                                    clear g
                                                                                                    replace h : EV F f 177 z177 127 [some (rf 11 (0)), some (rf 14 (6)), some (.inr (.inl (n82))), none, some (.inl (Int32.ofInt 1)), some (.inl (Int32.ofInt 1)), some (.inr (.inl ((v142) + (v147)))), none, some (.inl (Int32.ofInt 1))] [rf 11 (0), .inr (.inl ((v142) + (v147)))] σ (w, σ') := h
                                                                                                    replace h := ei_p h rfl rfl rfl rfl
                                                                                                    obtain ⟨f, g, h⟩ := h
                                                                                                    clear g
                                                                                                    replace h : EV F f 177 z177 129 [some (rf 11 (0)), some (rf 14 (6)), some (.inr (.inl (n82))), none, some (.inl (Int32.ofInt 1)), some (.inl (Int32.ofInt 1)), some (.inr (.inl ((v142) + (v147)))), none, some (.inl (Int32.ofInt 1))] [.inl (Int32.ofInt 1), rf 11 (0), .inr (.inl ((v142) + (v147)))] σ (w, σ') := h
                                                                                                    replace h := ei_p h rfl rfl rfl rfl
                                                                                                    obtain ⟨f, g, h⟩ := h
                                                                                                    clear g
                                                                                                    replace h : EV F f 177 z177 131 [some (rf 11 (0)), some (rf 14 (6)), some (.inr (.inl (n82))), none, some (.inl (Int32.ofInt 1)), some (.inl (Int32.ofInt 1)), some (.inr (.inl ((v142) + (v147)))), none, some (.inl (Int32.ofInt 1))] [.inl (Int32.ofInt 1), .inl (Int32.ofInt 1), rf 11 (0), .inr (.inl ((v142) + (v147)))] σ (w, σ') := h
                                                                                                    replace h := bx_L (ei_v (as := [.inl (Int32.ofInt 1), .inl (Int32.ofInt 1)]) h rfl rfl rfl) z144_at rfl
                                                                                                    rcases h with ⟨v152, σ153, r154, f, g, h⟩ | ⟨b, σ153, r154, e⟩
                                                                                                    · skip
                                                                                                      have er154 := ro2_run rfl r154
                                                                                                      rw [er154] at h r154
                                                                                                      clear g
                                                                                                      have p155 := x144 hs.1 r154
                                                                                                      refine Or.inl ⟨v152, p155, ?_⟩
                                                                                                      replace h : EV F f 177 z177 134 [some (rf 11 (0)), some (rf 14 (6)), some (.inr (.inl (n82))), none, some (.inl (Int32.ofInt 1)), some (.inl (Int32.ofInt 1)), some (.inr (.inl ((v142) + (v147)))), none, some (.inl (Int32.ofInt 1))] [.inr (.inl (v152)), .inr (.inl ((v142) + (v147)))] σ (w, σ') := h
                                                                                                      replace h := ei_p h rfl rfl rfl rfl
                                                                                                      obtain ⟨f, g, h⟩ := h
                                                                                                      clear g
                                                                                                      replace h : EV F f 177 z177 135 [some (rf 11 (0)), some (rf 14 (6)), some (.inr (.inl (n82))), none, some (.inl (Int32.ofInt 1)), some (.inl (Int32.ofInt 1)), some (.inr (.inl ((v142) + (v147)))), none, some (.inl (Int32.ofInt 1))] [.inr (.inl (((v142) + (v147)) + (v152)))] σ (w, σ') := h
                                                                                                      replace h := ei_p h rfl rfl rfl rfl
                                                                                                      obtain ⟨f, g, h⟩ := h
                                                                                                      clear g
                                                                                                      replace h : EV F f 177 z177 137 [some (rf 11 (0)), some (rf 14 (6)), some (.inr (.inl (n82))), none, some (.inl (Int32.ofInt 1)), some (.inl (Int32.ofInt 1)), some (.inr (.inl (((v142) + (v147)) + (v152)))), none, some (.inl (Int32.ofInt 1))] [] σ (w, σ') := h
                                                                                                      replace h := ei_p h rfl rfl rfl rfl
                                                                                                      obtain ⟨f, g, h⟩ := h
                                                                                                      clear g
                                                                                                      replace h : EV F f 177 z177 140 [some (rf 11 (0)), some (rf 14 (6)), some (.inr (.inl (n82))), none, some (.inl (Int32.ofInt 1)), some (.inl (Int32.ofInt 1)), some (.inr (.inl (((v142) + (v147)) + (v152)))), none, some (.inl ((Int32.ofInt 1) + Int32.ofInt 1))] [] σ (w, σ') := h
                                                                                                      rw [show (Int32.ofInt 1) + Int32.ofInt 1 = Int32.ofInt 2 from by decide] at h
                                                                                                      replace h : EV F f 177 z177 140 [some (rf 11 (0)), some (rf 14 (6)), some (.inr (.inl (n82))), none, some (.inl (Int32.ofInt 1)), some (.inl (Int32.ofInt 1)), some (.inr (.inl (((v142) + (v147)) + (v152)))), none, some (.inl (Int32.ofInt 2))] [] σ (w, σ') := h
                                                                                                      replace h := ei_p h rfl rfl rfl rfl
                                                                                                      obtain ⟨f, g, h⟩ := h
                                                                                                      clear g
                                                                                                      replace h : EV F f 177 z177 118 [some (rf 11 (0)), some (rf 14 (6)), some (.inr (.inl (n82))), none, some (.inl (Int32.ofInt 1)), some (.inl (Int32.ofInt 1)), some (.inr (.inl (((v142) + (v147)) + (v152)))), none, some (.inl (Int32.ofInt 2))] [] σ (w, σ') := h
                                                                                                      replace h := ei_p h rfl rfl rfl rfl
                                                                                                      obtain ⟨f, g, h⟩ := h
                                                                                                      clear g
                                                                                                      replace h : EV F f 177 z177 120 [some (rf 11 (0)), some (rf 14 (6)), some (.inr (.inl (n82))), none, some (.inl (Int32.ofInt 1)), some (.inl (Int32.ofInt 1)), some (.inr (.inl (((v142) + (v147)) + (v152)))), none, some (.inl (Int32.ofInt 2))] [.inl (Int32.ofInt 2)] σ (w, σ') := h
                                                                                                      replace h := ei_p h rfl rfl rfl rfl
                                                                                                      obtain ⟨f, g, h⟩ := h
                                                                                                      clear g
                                                                                                      replace h : EV F f 177 z177 121 [some (rf 11 (0)), some (rf 14 (6)), some (.inr (.inl (n82))), none, some (.inl (Int32.ofInt 1)), some (.inl (Int32.ofInt 1)), some (.inr (.inl (((v142) + (v147)) + (v152)))), none, some (.inl (Int32.ofInt 2))] [.inl (Int32.ofInt 5), .inl (Int32.ofInt 2)] σ (w, σ') := h
                                                                                                      replace h := ei_c h rfl rfl rfl
                                                                                                      rcases h with ⟨hp156, f, g, h⟩ | ⟨hp156, f, g, h⟩
                                                                                                      · exact absurd (ic_ge.mp hp156) (by decide)
                                                                                                      · skip
                                                                                                        clear g
                                                                                                        replace h : EV F f 177 z177 124 [some (rf 11 (0)), some (rf 14 (6)), some (.inr (.inl (n82))), none, some (.inl (Int32.ofInt 1)), some (.inl (Int32.ofInt 1)), some (.inr (.inl (((v142) + (v147)) + (v152)))), none, some (.inl (Int32.ofInt 2))] [] σ (w, σ') := h
                                                                                                        replace h := ei_p h rfl rfl rfl rfl
                                                                                                        obtain ⟨f, g, h⟩ := h
                                                                                                        clear g
                                                                                                        replace h : EV F f 177 z177 126 [some (rf 11 (0)), some (rf 14 (6)), some (.inr (.inl (n82))), none, some (.inl (Int32.ofInt 1)), some (.inl (Int32.ofInt 1)), some (.inr (.inl (((v142) + (v147)) + (v152)))), none, some (.inl (Int32.ofInt 2))] [.inr (.inl (((v142) + (v147)) + (v152)))] σ (w, σ') := h
                                                                                                        replace h := ei_p h rfl rfl rfl rfl
                                                                                                        obtain ⟨f, g, h⟩ := h
                                                                                                        clear g
                                                                                                        replace h : EV F f 177 z177 127 [some (rf 11 (0)), some (rf 14 (6)), some (.inr (.inl (n82))), none, some (.inl (Int32.ofInt 1)), some (.inl (Int32.ofInt 1)), some (.inr (.inl (((v142) + (v147)) + (v152)))), none, some (.inl (Int32.ofInt 2))] [rf 11 (0), .inr (.inl (((v142) + (v147)) + (v152)))] σ (w, σ') := h
                                                                                                        replace h := ei_p h rfl rfl rfl rfl
                                                                                                        obtain ⟨f, g, h⟩ := h
                                                                                                        clear g
                                                                                                        replace h : EV F f 177 z177 129 [some (rf 11 (0)), some (rf 14 (6)), some (.inr (.inl (n82))), none, some (.inl (Int32.ofInt 1)), some (.inl (Int32.ofInt 1)), some (.inr (.inl (((v142) + (v147)) + (v152)))), none, some (.inl (Int32.ofInt 2))] [.inl (Int32.ofInt 2), rf 11 (0), .inr (.inl (((v142) + (v147)) + (v152)))] σ (w, σ') := h
                                                                                                        replace h := ei_p h rfl rfl rfl rfl
                                                                                                        obtain ⟨f, g, h⟩ := h
                                                                                                        clear g
                                                                                                        replace h : EV F f 177 z177 131 [some (rf 11 (0)), some (rf 14 (6)), some (.inr (.inl (n82))), none, some (.inl (Int32.ofInt 1)), some (.inl (Int32.ofInt 1)), some (.inr (.inl (((v142) + (v147)) + (v152)))), none, some (.inl (Int32.ofInt 2))] [.inl (Int32.ofInt 1), .inl (Int32.ofInt 2), rf 11 (0), .inr (.inl (((v142) + (v147)) + (v152)))] σ (w, σ') := h
                                                                                                        replace h := bx_L (ei_v (as := [.inl (Int32.ofInt 1), .inl (Int32.ofInt 2)]) h rfl rfl rfl) z144_at rfl
                                                                                                        rcases h with ⟨v157, σ158, r159, f, g, h⟩ | ⟨b, σ158, r159, e⟩
                                                                                                        · skip
                                                                                                          have er159 := ro2_run rfl r159
                                                                                                          rw [er159] at h r159
                                                                                                          clear g
                                                                                                          have p160 := x144 hs.1 r159
                                                                                                          refine Or.inl ⟨v157, p160, ?_⟩
                                                                                                          replace h : EV F f 177 z177 134 [some (rf 11 (0)), some (rf 14 (6)), some (.inr (.inl (n82))), none, some (.inl (Int32.ofInt 1)), some (.inl (Int32.ofInt 1)), some (.inr (.inl (((v142) + (v147)) + (v152)))), none, some (.inl (Int32.ofInt 2))] [.inr (.inl (v157)), .inr (.inl (((v142) + (v147)) + (v152)))] σ (w, σ') := h
                                                                                                          replace h := ei_p h rfl rfl rfl rfl
                                                                                                          obtain ⟨f, g, h⟩ := h
                                                                                                          clear g
                                                                                                          replace h : EV F f 177 z177 135 [some (rf 11 (0)), some (rf 14 (6)), some (.inr (.inl (n82))), none, some (.inl (Int32.ofInt 1)), some (.inl (Int32.ofInt 1)), some (.inr (.inl (((v142) + (v147)) + (v152)))), none, some (.inl (Int32.ofInt 2))] [.inr (.inl ((((v142) + (v147)) + (v152)) + (v157)))] σ (w, σ') := h
                                                                                                          replace h := ei_p h rfl rfl rfl rfl
                                                                                                          obtain ⟨f, g, h⟩ := h
                                                                                                          clear g
                                                                                                          replace h : EV F f 177 z177 137 [some (rf 11 (0)), some (rf 14 (6)), some (.inr (.inl (n82))), none, some (.inl (Int32.ofInt 1)), some (.inl (Int32.ofInt 1)), some (.inr (.inl ((((v142) + (v147)) + (v152)) + (v157)))), none, some (.inl (Int32.ofInt 2))] [] σ (w, σ') := h
                                                                                                          obtain ⟨n161, e162⟩ : ∃ s, s = (((v142) + (v147)) + (v152)) + (v157) := ⟨_, rfl⟩
                                                                                                          rw [← e162] at h
                                                                                                          refine ⟨n161, e162, ?_⟩
                                                                                                          replace h : EV F f 177 z177 137 [some (rf 11 (0)), some (rf 14 (6)), some (.inr (.inl (n82))), none, some (.inl (Int32.ofInt 1)), some (.inl (Int32.ofInt 1)), some (.inr (.inl (n161))), none, some (.inl (Int32.ofInt 2))] [] σ (w, σ') := h
                                                                                                          replace h := ei_p h rfl rfl rfl rfl
                                                                                                          obtain ⟨f, g, h⟩ := h
                                                                                                          clear g
                                                                                                          replace h : EV F f 177 z177 140 [some (rf 11 (0)), some (rf 14 (6)), some (.inr (.inl (n82))), none, some (.inl (Int32.ofInt 1)), some (.inl (Int32.ofInt 1)), some (.inr (.inl (n161))), none, some (.inl ((Int32.ofInt 2) + Int32.ofInt 1))] [] σ (w, σ') := h
                                                                                                          rw [show (Int32.ofInt 2) + Int32.ofInt 1 = Int32.ofInt 3 from by decide] at h
                                                                                                          replace h : EV F f 177 z177 140 [some (rf 11 (0)), some (rf 14 (6)), some (.inr (.inl (n82))), none, some (.inl (Int32.ofInt 1)), some (.inl (Int32.ofInt 1)), some (.inr (.inl (n161))), none, some (.inl (Int32.ofInt 3))] [] σ (w, σ') := h
                                                                                                          replace h := ei_p h rfl rfl rfl rfl
                                                                                                          obtain ⟨f, g, h⟩ := h
                                                                                                          clear g
                                                                                                          replace h : EV F f 177 z177 118 [some (rf 11 (0)), some (rf 14 (6)), some (.inr (.inl (n82))), none, some (.inl (Int32.ofInt 1)), some (.inl (Int32.ofInt 1)), some (.inr (.inl (n161))), none, some (.inl (Int32.ofInt 3))] [] σ (w, σ') := h
                                                                                                          replace h := ei_p h rfl rfl rfl rfl
                                                                                                          obtain ⟨f, g, h⟩ := h
                                                                                                          clear g
                                                                                                          replace h : EV F f 177 z177 120 [some (rf 11 (0)), some (rf 14 (6)), some (.inr (.inl (n82))), none, some (.inl (Int32.ofInt 1)), some (.inl (Int32.ofInt 1)), some (.inr (.inl (n161))), none, some (.inl (Int32.ofInt 3))] [.inl (Int32.ofInt 3)] σ (w, σ') := h
                                                                                                          replace h := ei_p h rfl rfl rfl rfl
                                                                                                          obtain ⟨f, g, h⟩ := h
                                                                                                          clear g
                                                                                                          replace h : EV F f 177 z177 121 [some (rf 11 (0)), some (rf 14 (6)), some (.inr (.inl (n82))), none, some (.inl (Int32.ofInt 1)), some (.inl (Int32.ofInt 1)), some (.inr (.inl (n161))), none, some (.inl (Int32.ofInt 3))] [.inl (Int32.ofInt 5), .inl (Int32.ofInt 3)] σ (w, σ') := h
                                                                                                          replace h := ei_c h rfl rfl rfl
                                                                                                          rcases h with ⟨hp163, f, g, h⟩ | ⟨hp163, f, g, h⟩
                                                                                                          · exact absurd (ic_ge.mp hp163) (by decide)
                                                                                                          · skip
                                                                                                            clear g
                                                                                                            replace h : EV F f 177 z177 124 [some (rf 11 (0)), some (rf 14 (6)), some (.inr (.inl (n82))), none, some (.inl (Int32.ofInt 1)), some (.inl (Int32.ofInt 1)), some (.inr (.inl (n161))), none, some (.inl (Int32.ofInt 3))] [] σ (w, σ') := h
                                                                                                            replace h := ei_p h rfl rfl rfl rfl
                                                                                                            obtain ⟨f, g, h⟩ := h
                                                                                                            clear g
                                                                                                            replace h : EV F f 177 z177 126 [some (rf 11 (0)), some (rf 14 (6)), some (.inr (.inl (n82))), none, some (.inl (Int32.ofInt 1)), some (.inl (Int32.ofInt 1)), some (.inr (.inl (n161))), none, some (.inl (Int32.ofInt 3))] [.inr (.inl (n161))] σ (w, σ') := h
                                                                                                            replace h := ei_p h rfl rfl rfl rfl
                                                                                                            obtain ⟨f, g, h⟩ := h
                                                                                                            clear g
                                                                                                            replace h : EV F f 177 z177 127 [some (rf 11 (0)), some (rf 14 (6)), some (.inr (.inl (n82))), none, some (.inl (Int32.ofInt 1)), some (.inl (Int32.ofInt 1)), some (.inr (.inl (n161))), none, some (.inl (Int32.ofInt 3))] [rf 11 (0), .inr (.inl (n161))] σ (w, σ') := h
                                                                                                            replace h := ei_p h rfl rfl rfl rfl
                                                                                                            obtain ⟨f, g, h⟩ := h
                                                                                                            clear g
                                                                                                            replace h : EV F f 177 z177 129 [some (rf 11 (0)), some (rf 14 (6)), some (.inr (.inl (n82))), none, some (.inl (Int32.ofInt 1)), some (.inl (Int32.ofInt 1)), some (.inr (.inl (n161))), none, some (.inl (Int32.ofInt 3))] [.inl (Int32.ofInt 3), rf 11 (0), .inr (.inl (n161))] σ (w, σ') := h
                                                                                                            replace h := ei_p h rfl rfl rfl rfl
                                                                                                            obtain ⟨f, g, h⟩ := h
                                                                                                            clear g
                                                                                                            replace h : EV F f 177 z177 131 [some (rf 11 (0)), some (rf 14 (6)), some (.inr (.inl (n82))), none, some (.inl (Int32.ofInt 1)), some (.inl (Int32.ofInt 1)), some (.inr (.inl (n161))), none, some (.inl (Int32.ofInt 3))] [.inl (Int32.ofInt 1), .inl (Int32.ofInt 3), rf 11 (0), .inr (.inl (n161))] σ (w, σ') := h
                                                                                                            replace h := bx_L (ei_v (as := [.inl (Int32.ofInt 1), .inl (Int32.ofInt 3)]) h rfl rfl rfl) z144_at rfl
                                                                                                            rcases h with ⟨v164, σ165, r166, f, g, h⟩ | ⟨b, σ165, r166, e⟩
                                                                                                            · skip
                                                                                                              have er166 := ro2_run rfl r166
                                                                                                              rw [er166] at h r166
                                                                                                              clear g
                                                                                                              have p167 := x144 hs.1 r166
                                                                                                              refine Or.inl ⟨v164, p167, ?_⟩
                                                                                                              replace h : EV F f 177 z177 134 [some (rf 11 (0)), some (rf 14 (6)), some (.inr (.inl (n82))), none, some (.inl (Int32.ofInt 1)), some (.inl (Int32.ofInt 1)), some (.inr (.inl (n161))), none, some (.inl (Int32.ofInt 3))] [.inr (.inl (v164)), .inr (.inl (n161))] σ (w, σ') := h
                                                                                                              replace h := ei_p h rfl rfl rfl rfl
                                                                                                              obtain ⟨f, g, h⟩ := h
                                                                                                              clear g
                                                                                                              replace h : EV F f 177 z177 135 [some (rf 11 (0)), some (rf 14 (6)), some (.inr (.inl (n82))), none, some (.inl (Int32.ofInt 1)), some (.inl (Int32.ofInt 1)), some (.inr (.inl (n161))), none, some (.inl (Int32.ofInt 3))] [.inr (.inl ((n161) + (v164)))] σ (w, σ') := h
                                                                                                              replace h := ei_p h rfl rfl rfl rfl
                                                                                                              obtain ⟨f, g, h⟩ := h
                                                                                                              clear g
                                                                                                              replace h : EV F f 177 z177 137 [some (rf 11 (0)), some (rf 14 (6)), some (.inr (.inl (n82))), none, some (.inl (Int32.ofInt 1)), some (.inl (Int32.ofInt 1)), some (.inr (.inl ((n161) + (v164)))), none, some (.inl (Int32.ofInt 3))] [] σ (w, σ') := h
                                                                                                              replace h := ei_p h rfl rfl rfl rfl
                                                                                                              obtain ⟨f, g, h⟩ := h
                                                                                                              clear g
                                                                                                              replace h : EV F f 177 z177 140 [some (rf 11 (0)), some (rf 14 (6)), some (.inr (.inl (n82))), none, some (.inl (Int32.ofInt 1)), some (.inl (Int32.ofInt 1)), some (.inr (.inl ((n161) + (v164)))), none, some (.inl ((Int32.ofInt 3) + Int32.ofInt 1))] [] σ (w, σ') := h
                                                                                                              rw [show (Int32.ofInt 3) + Int32.ofInt 1 = Int32.ofInt 4 from by decide] at h
                                                                                                              replace h : EV F f 177 z177 140 [some (rf 11 (0)), some (rf 14 (6)), some (.inr (.inl (n82))), none, some (.inl (Int32.ofInt 1)), some (.inl (Int32.ofInt 1)), some (.inr (.inl ((n161) + (v164)))), none, some (.inl (Int32.ofInt 4))] [] σ (w, σ') := h
                                                                                                              replace h := ei_p h rfl rfl rfl rfl
                                                                                                              obtain ⟨f, g, h⟩ := h
                                                                                                              clear g
                                                                                                              replace h : EV F f 177 z177 118 [some (rf 11 (0)), some (rf 14 (6)), some (.inr (.inl (n82))), none, some (.inl (Int32.ofInt 1)), some (.inl (Int32.ofInt 1)), some (.inr (.inl ((n161) + (v164)))), none, some (.inl (Int32.ofInt 4))] [] σ (w, σ') := h
                                                                                                              replace h := ei_p h rfl rfl rfl rfl
                                                                                                              obtain ⟨f, g, h⟩ := h
                                                                                                              clear g
                                                                                                              replace h : EV F f 177 z177 120 [some (rf 11 (0)), some (rf 14 (6)), some (.inr (.inl (n82))), none, some (.inl (Int32.ofInt 1)), some (.inl (Int32.ofInt 1)), some (.inr (.inl ((n161) + (v164)))), none, some (.inl (Int32.ofInt 4))] [.inl (Int32.ofInt 4)] σ (w, σ') := h
                                                                                                              replace h := ei_p h rfl rfl rfl rfl
                                                                                                              obtain ⟨f, g, h⟩ := h
                                                                                                              clear g
                                                                                                              replace h : EV F f 177 z177 121 [some (rf 11 (0)), some (rf 14 (6)), some (.inr (.inl (n82))), none, some (.inl (Int32.ofInt 1)), some (.inl (Int32.ofInt 1)), some (.inr (.inl ((n161) + (v164)))), none, some (.inl (Int32.ofInt 4))] [.inl (Int32.ofInt 5), .inl (Int32.ofInt 4)] σ (w, σ') := h
                                                                                                              replace h := ei_c h rfl rfl rfl
                                                                                                              rcases h with ⟨hp168, f, g, h⟩ | ⟨hp168, f, g, h⟩
                                                                                                              · exact absurd (ic_ge.mp hp168) (by decide)
                                                                                                              · skip
                                                                                                                clear g
                                                                                                                replace h : EV F f 177 z177 124 [some (rf 11 (0)), some (rf 14 (6)), some (.inr (.inl (n82))), none, some (.inl (Int32.ofInt 1)), some (.inl (Int32.ofInt 1)), some (.inr (.inl ((n161) + (v164)))), none, some (.inl (Int32.ofInt 4))] [] σ (w, σ') := h
                                                                                                                replace h := ei_p h rfl rfl rfl rfl
                                                                                                                obtain ⟨f, g, h⟩ := h
                                                                                                                clear g
                                                                                                                replace h : EV F f 177 z177 126 [some (rf 11 (0)), some (rf 14 (6)), some (.inr (.inl (n82))), none, some (.inl (Int32.ofInt 1)), some (.inl (Int32.ofInt 1)), some (.inr (.inl ((n161) + (v164)))), none, some (.inl (Int32.ofInt 4))] [.inr (.inl ((n161) + (v164)))] σ (w, σ') := h
                                                                                                                replace h := ei_p h rfl rfl rfl rfl
                                                                                                                obtain ⟨f, g, h⟩ := h
                                                                                                                clear g
                                                                                                                replace h : EV F f 177 z177 127 [some (rf 11 (0)), some (rf 14 (6)), some (.inr (.inl (n82))), none, some (.inl (Int32.ofInt 1)), some (.inl (Int32.ofInt 1)), some (.inr (.inl ((n161) + (v164)))), none, some (.inl (Int32.ofInt 4))] [rf 11 (0), .inr (.inl ((n161) + (v164)))] σ (w, σ') := h
                                                                                                                replace h := ei_p h rfl rfl rfl rfl
                                                                                                                obtain ⟨f, g, h⟩ := h
                                                                                                                clear g
                                                                                                                replace h : EV F f 177 z177 129 [some (rf 11 (0)), some (rf 14 (6)), some (.inr (.inl (n82))), none, some (.inl (Int32.ofInt 1)), some (.inl (Int32.ofInt 1)), some (.inr (.inl ((n161) + (v164)))), none, some (.inl (Int32.ofInt 4))] [.inl (Int32.ofInt 4), rf 11 (0), .inr (.inl ((n161) + (v164)))] σ (w, σ') := h
                                                                                                                replace h := ei_p h rfl rfl rfl rfl
                                                                                                                obtain ⟨f, g, h⟩ := h
                                                                                                                clear g
                                                                                                                replace h : EV F f 177 z177 131 [some (rf 11 (0)), some (rf 14 (6)), some (.inr (.inl (n82))), none, some (.inl (Int32.ofInt 1)), some (.inl (Int32.ofInt 1)), some (.inr (.inl ((n161) + (v164)))), none, some (.inl (Int32.ofInt 4))] [.inl (Int32.ofInt 1), .inl (Int32.ofInt 4), rf 11 (0), .inr (.inl ((n161) + (v164)))] σ (w, σ') := h
                                                                                                                replace h := bx_L (ei_v (as := [.inl (Int32.ofInt 1), .inl (Int32.ofInt 4)]) h rfl rfl rfl) z144_at rfl
                                                                                                                rcases h with ⟨v169, σ170, r171, f, g, h⟩ | ⟨b, σ170, r171, e⟩
                                                                                                                · skip
                                                                                                                  have er171 := ro2_run rfl r171
                                                                                                                  rw [er171] at h r171
                                                                                                                  clear g
                                                                                                                  have p172 := x144 hs.1 r171
                                                                                                                  refine Or.inl ⟨v169, p172, ?_⟩
                                                                                                                  replace h : EV F f 177 z177 134 [some (rf 11 (0)), some (rf 14 (6)), some (.inr (.inl (n82))), none, some (.inl (Int32.ofInt 1)), some (.inl (Int32.ofInt 1)), some (.inr (.inl ((n161) + (v164)))), none, some (.inl (Int32.ofInt 4))] [.inr (.inl (v169)), .inr (.inl ((n161) + (v164)))] σ (w, σ') := h
                                                                                                                  replace h := ei_p h rfl rfl rfl rfl
                                                                                                                  obtain ⟨f, g, h⟩ := h
                                                                                                                  clear g
                                                                                                                  replace h : EV F f 177 z177 135 [some (rf 11 (0)), some (rf 14 (6)), some (.inr (.inl (n82))), none, some (.inl (Int32.ofInt 1)), some (.inl (Int32.ofInt 1)), some (.inr (.inl ((n161) + (v164)))), none, some (.inl (Int32.ofInt 4))] [.inr (.inl (((n161) + (v164)) + (v169)))] σ (w, σ') := h
                                                                                                                  replace h := ei_p h rfl rfl rfl rfl
                                                                                                                  obtain ⟨f, g, h⟩ := h
                                                                                                                  clear g
                                                                                                                  replace h : EV F f 177 z177 137 [some (rf 11 (0)), some (rf 14 (6)), some (.inr (.inl (n82))), none, some (.inl (Int32.ofInt 1)), some (.inl (Int32.ofInt 1)), some (.inr (.inl (((n161) + (v164)) + (v169)))), none, some (.inl (Int32.ofInt 4))] [] σ (w, σ') := h
                                                                                                                  replace h := ei_p h rfl rfl rfl rfl
                                                                                                                  obtain ⟨f, g, h⟩ := h
                                                                                                                  clear g
                                                                                                                  replace h : EV F f 177 z177 140 [some (rf 11 (0)), some (rf 14 (6)), some (.inr (.inl (n82))), none, some (.inl (Int32.ofInt 1)), some (.inl (Int32.ofInt 1)), some (.inr (.inl (((n161) + (v164)) + (v169)))), none, some (.inl ((Int32.ofInt 4) + Int32.ofInt 1))] [] σ (w, σ') := h
                                                                                                                  rw [show (Int32.ofInt 4) + Int32.ofInt 1 = Int32.ofInt 5 from by decide] at h
                                                                                                                  replace h : EV F f 177 z177 140 [some (rf 11 (0)), some (rf 14 (6)), some (.inr (.inl (n82))), none, some (.inl (Int32.ofInt 1)), some (.inl (Int32.ofInt 1)), some (.inr (.inl (((n161) + (v164)) + (v169)))), none, some (.inl (Int32.ofInt 5))] [] σ (w, σ') := h
                                                                                                                  replace h := ei_p h rfl rfl rfl rfl
                                                                                                                  obtain ⟨f, g, h⟩ := h
                                                                                                                  clear g
                                                                                                                  replace h : EV F f 177 z177 118 [some (rf 11 (0)), some (rf 14 (6)), some (.inr (.inl (n82))), none, some (.inl (Int32.ofInt 1)), some (.inl (Int32.ofInt 1)), some (.inr (.inl (((n161) + (v164)) + (v169)))), none, some (.inl (Int32.ofInt 5))] [] σ (w, σ') := h
                                                                                                                  replace h := ei_p h rfl rfl rfl rfl
                                                                                                                  obtain ⟨f, g, h⟩ := h
                                                                                                                  clear g
                                                                                                                  replace h : EV F f 177 z177 120 [some (rf 11 (0)), some (rf 14 (6)), some (.inr (.inl (n82))), none, some (.inl (Int32.ofInt 1)), some (.inl (Int32.ofInt 1)), some (.inr (.inl (((n161) + (v164)) + (v169)))), none, some (.inl (Int32.ofInt 5))] [.inl (Int32.ofInt 5)] σ (w, σ') := h
                                                                                                                  replace h := ei_p h rfl rfl rfl rfl
                                                                                                                  obtain ⟨f, g, h⟩ := h
                                                                                                                  clear g
                                                                                                                  replace h : EV F f 177 z177 121 [some (rf 11 (0)), some (rf 14 (6)), some (.inr (.inl (n82))), none, some (.inl (Int32.ofInt 1)), some (.inl (Int32.ofInt 1)), some (.inr (.inl (((n161) + (v164)) + (v169)))), none, some (.inl (Int32.ofInt 5))] [.inl (Int32.ofInt 5), .inl (Int32.ofInt 5)] σ (w, σ') := h
                                                                                                                  replace h := ei_c h rfl rfl rfl
                                                                                                                  rcases h with ⟨hp173, f, g, h⟩ | ⟨hp173, f, g, h⟩
                                                                                                                  · skip
                                                                                                                    clear g
                                                                                                                    replace h : EV F f 177 z177 143 [some (rf 11 (0)), some (rf 14 (6)), some (.inr (.inl (n82))), none, some (.inl (Int32.ofInt 1)), some (.inl (Int32.ofInt 1)), some (.inr (.inl (((n161) + (v164)) + (v169)))), none, some (.inl (Int32.ofInt 5))] [] σ (w, σ') := h
                                                                                                                    replace h := ei_p h rfl rfl rfl rfl
                                                                                                                    obtain ⟨f, g, h⟩ := h
                                                                                                                    clear g
                                                                                                                    replace h : EV F f 177 z177 145 [some (rf 11 (0)), some (rf 14 (6)), some (.inr (.inl (n82))), none, some (.inl (Int32.ofInt 1)), some (.inl (Int32.ofInt 1)), some (.inr (.inl (((n161) + (v164)) + (v169)))), none, some (.inl (Int32.ofInt 5))] [.inr (.inl (((n161) + (v164)) + (v169)))] σ (w, σ') := h
                                                                                                                    replace h := ei_p h rfl rfl rfl rfl
                                                                                                                    obtain ⟨f, g, h⟩ := h
                                                                                                                    clear g
                                                                                                                    replace h : EV F f 177 z177 146 [some (rf 11 (0)), some (rf 14 (6)), some (.inr (.inl (n82))), none, some (.inl (Int32.ofInt 1)), some (.inl (Int32.ofInt 1)), some (.inr (.inl (((n161) + (v164)) + (v169)))), none, some (.inl (Int32.ofInt 5))] [.inr (.inl (Int64.ofNat 0)), .inr (.inl (((n161) + (v164)) + (v169)))] σ (w, σ') := h
                                                                                                                    replace h := ei_p h rfl rfl rfl rfl
                                                                                                                    obtain ⟨f, g, h⟩ := h
                                                                                                                    clear g
                                                                                                                    replace h : EV F f 177 z177 147 [some (rf 11 (0)), some (rf 14 (6)), some (.inr (.inl (n82))), none, some (.inl (Int32.ofInt 1)), some (.inl (Int32.ofInt 1)), some (.inr (.inl (((n161) + (v164)) + (v169)))), none, some (.inl (Int32.ofInt 5))] [.inl (lg_cmp (((n161) + (v164)) + (v169)) (Int64.ofNat 0))] σ (w, σ') := h
                                                                                                                    replace h := ei_c h rfl rfl rfl
                                                                                                                    rcases h with ⟨hp174, f, g, h⟩ | ⟨hp174, f, g, h⟩
                                                                                                                    · skip
                                                                                                                      replace hp174 : (((n161) + (v164)) + (v169)).toInt ≠ (Int64.ofNat 0).toInt := (ab_lc .ne _ _).mp hp174
                                                                                                                      refine Or.inl ⟨hp174, ?_⟩
                                                                                                                      clear g
                                                                                                                      replace h : EV F f 177 z177 154 [some (rf 11 (0)), some (rf 14 (6)), some (.inr (.inl (n82))), none, some (.inl (Int32.ofInt 1)), some (.inl (Int32.ofInt 1)), some (.inr (.inl (((n161) + (v164)) + (v169)))), none, some (.inl (Int32.ofInt 5))] [] σ (w, σ') := h
                                                                                                                      replace h := ei_p h rfl rfl rfl rfl
                                                                                                                      obtain ⟨f, g, h⟩ := h
                                                                                                                      clear g
                                                                                                                      replace h : EV F f 177 z177 155 [some (rf 11 (0)), some (rf 14 (6)), some (.inr (.inl (n82))), none, some (.inl (Int32.ofInt 1)), some (.inl (Int32.ofInt 1)), some (.inr (.inl (((n161) + (v164)) + (v169)))), none, some (.inl (Int32.ofInt 5))] [.inl (Int32.ofInt 0)] σ (w, σ') := h
                                                                                                                      replace h := ei_p h rfl rfl rfl rfl
                                                                                                                      obtain ⟨f, g, h⟩ := h
                                                                                                                      clear g
                                                                                                                      replace h : EV F f 177 z177 157 [some (rf 11 (0)), some (rf 14 (6)), some (.inr (.inl (n82))), none, some (.inl (Int32.ofInt 0)), some (.inl (Int32.ofInt 1)), some (.inr (.inl (((n161) + (v164)) + (v169)))), none, some (.inl (Int32.ofInt 5))] [] σ (w, σ') := h
                                                                                                                      replace h := ei_p h rfl rfl rfl rfl
                                                                                                                      obtain ⟨f, g, h⟩ := h
                                                                                                                      clear g
                                                                                                                      replace h : EV F f 177 z177 160 [some (rf 11 (0)), some (rf 14 (6)), some (.inr (.inl (n82))), none, some (.inl (Int32.ofInt 0)), some (.inl ((Int32.ofInt 1) + Int32.ofInt 1)), some (.inr (.inl (((n161) + (v164)) + (v169)))), none, some (.inl (Int32.ofInt 5))] [] σ (w, σ') := h
                                                                                                                      rw [show (Int32.ofInt 1) + Int32.ofInt 1 = Int32.ofInt 2 from by decide] at h
                                                                                                                      replace h : EV F f 177 z177 160 [some (rf 11 (0)), some (rf 14 (6)), some (.inr (.inl (n82))), none, some (.inl (Int32.ofInt 0)), some (.inl (Int32.ofInt 2)), some (.inr (.inl (((n161) + (v164)) + (v169)))), none, some (.inl (Int32.ofInt 5))] [] σ (w, σ') := h
                                                                                                                      replace h := ei_p h rfl rfl rfl rfl
                                                                                                                      obtain ⟨f, g, h⟩ := h
                                                                                                                      clear g
                                                                                                                      replace h : EV F f 177 z177 95 [some (rf 11 (0)), some (rf 14 (6)), some (.inr (.inl (n82))), none, some (.inl (Int32.ofInt 0)), some (.inl (Int32.ofInt 2)), some (.inr (.inl (((n161) + (v164)) + (v169)))), none, some (.inl (Int32.ofInt 5))] [] σ (w, σ') := h
                                                                                                                      replace h := ei_p h rfl rfl rfl rfl
                                                                                                                      obtain ⟨f, g, h⟩ := h
                                                                                                                      clear g
                                                                                                                      replace h : EV F f 177 z177 97 [some (rf 11 (0)), some (rf 14 (6)), some (.inr (.inl (n82))), none, some (.inl (Int32.ofInt 0)), some (.inl (Int32.ofInt 2)), some (.inr (.inl (((n161) + (v164)) + (v169)))), none, some (.inl (Int32.ofInt 5))] [.inl (Int32.ofInt 2)] σ (w, σ') := h
                                                                                                                      replace h := ei_p h rfl rfl rfl rfl
                                                                                                                      obtain ⟨f, g, h⟩ := h
                                                                                                                      clear g
                                                                                                                      replace h : EV F f 177 z177 98 [some (rf 11 (0)), some (rf 14 (6)), some (.inr (.inl (n82))), none, some (.inl (Int32.ofInt 0)), some (.inl (Int32.ofInt 2)), some (.inr (.inl (((n161) + (v164)) + (v169)))), none, some (.inl (Int32.ofInt 5))] [.inl (Int32.ofInt 3), .inl (Int32.ofInt 2)] σ (w, σ') := h
                                                                                                                      replace h := ei_c h rfl rfl rfl
                                                                                                                      rcases h with ⟨hp175, f, g, h⟩ | ⟨hp175, f, g, h⟩
                                                                                                                      · exact absurd (ic_ge.mp hp175) (by decide)
                                                                                                                      · skip
                                                                                                                        clear g
                                                                                                                        replace h : EV F f 177 z177 101 [some (rf 11 (0)), some (rf 14 (6)), some (.inr (.inl (n82))), none, some (.inl (Int32.ofInt 0)), some (.inl (Int32.ofInt 2)), some (.inr (.inl (((n161) + (v164)) + (v169)))), none, some (.inl (Int32.ofInt 5))] [] σ (w, σ') := h
                                                                                                                        replace h := ei_p h rfl rfl rfl rfl
                                                                                                                        obtain ⟨f, g, h⟩ := h
                                                                                                                        clear g
                                                                                                                        replace h : EV F f 177 z177 103 [some (rf 11 (0)), some (rf 14 (6)), some (.inr (.inl (n82))), none, some (.inl (Int32.ofInt 0)), some (.inl (Int32.ofInt 2)), some (.inr (.inl (((n161) + (v164)) + (v169)))), none, some (.inl (Int32.ofInt 5))] [.inl (Int32.ofInt 0)] σ (w, σ') := h
                                                                                                                        replace h := ei_c h rfl rfl rfl
                                                                                                                        rcases h with ⟨hp176, f, g, h⟩ | ⟨hp176, f, g, h⟩
                                                                                                                        · skip
                                                                                                                          clear g
                                                                                                                          replace h : EV F f 177 z177 163 [some (rf 11 (0)), some (rf 14 (6)), some (.inr (.inl (n82))), none, some (.inl (Int32.ofInt 0)), some (.inl (Int32.ofInt 2)), some (.inr (.inl (((n161) + (v164)) + (v169)))), none, some (.inl (Int32.ofInt 5))] [] σ (w, σ') := h
                                                                                                                          replace h := ei_p h rfl rfl rfl rfl
                                                                                                                          obtain ⟨f, g, h⟩ := h
                                                                                                                          clear g
                                                                                                                          replace h : EV F f 177 z177 165 [some (rf 11 (0)), some (rf 14 (6)), some (.inr (.inl (n82))), none, some (.inl (Int32.ofInt 0)), some (.inl (Int32.ofInt 2)), some (.inr (.inl (((n161) + (v164)) + (v169)))), none, some (.inl (Int32.ofInt 5))] [.inl (Int32.ofInt 0)] σ (w, σ') := h
                                                                                                                          have e := ei_iret h rfl
                                                                                                                          cases e
                                                                                                                          exact ⟨rfl, rfl⟩
                                                                                                                        · exact absurd (ic_eq.mpr (by decide)) hp176
                                                                                                                    · skip
                                                                                                                      replace hp174 : ¬ ((((n161) + (v164)) + (v169)).toInt ≠ (Int64.ofNat 0).toInt) := (not_congr (ab_lc .ne _ _)).mp hp174
                                                                                                                      refine Or.inr ⟨hp174, ?_⟩
                                                                                                                      clear g
                                                                                                                      replace h : EV F f 177 z177 150 [some (rf 11 (0)), some (rf 14 (6)), some (.inr (.inl (n82))), none, some (.inl (Int32.ofInt 1)), some (.inl (Int32.ofInt 1)), some (.inr (.inl (((n161) + (v164)) + (v169)))), none, some (.inl (Int32.ofInt 5))] [] σ (w, σ') := h
                                                                                                                      replace h := ei_p h rfl rfl rfl rfl
                                                                                                                      obtain ⟨f, g, h⟩ := h
                                                                                                                      clear g
                                                                                                                      replace h : EV F f 177 z177 151 [some (rf 11 (0)), some (rf 14 (6)), some (.inr (.inl (n82))), none, some (.inl (Int32.ofInt 1)), some (.inl (Int32.ofInt 1)), some (.inr (.inl (((n161) + (v164)) + (v169)))), none, some (.inl (Int32.ofInt 5))] [.inl (Int32.ofInt 1)] σ (w, σ') := h
                                                                                                                      replace h := ei_p h rfl rfl rfl rfl
                                                                                                                      obtain ⟨f, g, h⟩ := h
                                                                                                                      clear g
                                                                                                                      replace h : EV F f 177 z177 155 [some (rf 11 (0)), some (rf 14 (6)), some (.inr (.inl (n82))), none, some (.inl (Int32.ofInt 1)), some (.inl (Int32.ofInt 1)), some (.inr (.inl (((n161) + (v164)) + (v169)))), none, some (.inl (Int32.ofInt 5))] [.inl (Int32.ofInt 1)] σ (w, σ') := h
                                                                                                                      replace h := ei_p h rfl rfl rfl rfl
                                                                                                                      obtain ⟨f, g, h⟩ := h
                                                                                                                      clear g
                                                                                                                      replace h : EV F f 177 z177 157 [some (rf 11 (0)), some (rf 14 (6)), some (.inr (.inl (n82))), none, some (.inl (Int32.ofInt 1)), some (.inl (Int32.ofInt 1)), some (.inr (.inl (((n161) + (v164)) + (v169)))), none, some (.inl (Int32.ofInt 5))] [] σ (w, σ') := h
                                                                                                                      replace h := ei_p h rfl rfl rfl rfl
                                                                                                                      obtain ⟨f, g, h⟩ := h
                                                                                                                      clear g
                                                                                                                      replace h : EV F f 177 z177 160 [some (rf 11 (0)), some (rf 14 (6)), some (.inr (.inl (n82))), none, some (.inl (Int32.ofInt 1)), some (.inl ((Int32.ofInt 1) + Int32.ofInt 1)), some (.inr (.inl (((n161) + (v164)) + (v169)))), none, some (.inl (Int32.ofInt 5))] [] σ (w, σ') := h
                                                                                                                      rw [show (Int32.ofInt 1) + Int32.ofInt 1 = Int32.ofInt 2 from by decide] at h
                                                                                                                      replace h : EV F f 177 z177 160 [some (rf 11 (0)), some (rf 14 (6)), some (.inr (.inl (n82))), none, some (.inl (Int32.ofInt 1)), some (.inl (Int32.ofInt 2)), some (.inr (.inl (((n161) + (v164)) + (v169)))), none, some (.inl (Int32.ofInt 5))] [] σ (w, σ') := h
                                                                                                                      replace h := ei_p h rfl rfl rfl rfl
                                                                                                                      obtain ⟨f, g, h⟩ := h
                                                                                                                      clear g
                                                                                                                      replace h : EV F f 177 z177 95 [some (rf 11 (0)), some (rf 14 (6)), some (.inr (.inl (n82))), none, some (.inl (Int32.ofInt 1)), some (.inl (Int32.ofInt 2)), some (.inr (.inl (((n161) + (v164)) + (v169)))), none, some (.inl (Int32.ofInt 5))] [] σ (w, σ') := h
                                                                                                                      replace h := ei_p h rfl rfl rfl rfl
                                                                                                                      obtain ⟨f, g, h⟩ := h
                                                                                                                      clear g
                                                                                                                      replace h : EV F f 177 z177 97 [some (rf 11 (0)), some (rf 14 (6)), some (.inr (.inl (n82))), none, some (.inl (Int32.ofInt 1)), some (.inl (Int32.ofInt 2)), some (.inr (.inl (((n161) + (v164)) + (v169)))), none, some (.inl (Int32.ofInt 5))] [.inl (Int32.ofInt 2)] σ (w, σ') := h
                                                                                                                      replace h := ei_p h rfl rfl rfl rfl
                                                                                                                      obtain ⟨f, g, h⟩ := h
                                                                                                                      clear g
                                                                                                                      replace h : EV F f 177 z177 98 [some (rf 11 (0)), some (rf 14 (6)), some (.inr (.inl (n82))), none, some (.inl (Int32.ofInt 1)), some (.inl (Int32.ofInt 2)), some (.inr (.inl (((n161) + (v164)) + (v169)))), none, some (.inl (Int32.ofInt 5))] [.inl (Int32.ofInt 3), .inl (Int32.ofInt 2)] σ (w, σ') := h
                                                                                                                      replace h := ei_c h rfl rfl rfl
                                                                                                                      rcases h with ⟨hp177, f, g, h⟩ | ⟨hp177, f, g, h⟩
                                                                                                                      · exact absurd (ic_ge.mp hp177) (by decide)
                                                                                                                      · skip
                                                                                                                        clear g
                                                                                                                        replace h : EV F f 177 z177 101 [some (rf 11 (0)), some (rf 14 (6)), some (.inr (.inl (n82))), none, some (.inl (Int32.ofInt 1)), some (.inl (Int32.ofInt 2)), some (.inr (.inl (((n161) + (v164)) + (v169)))), none, some (.inl (Int32.ofInt 5))] [] σ (w, σ') := h
                                                                                                                        replace h := ei_p h rfl rfl rfl rfl
                                                                                                                        obtain ⟨f, g, h⟩ := h
                                                                                                                        clear g
                                                                                                                        replace h : EV F f 177 z177 103 [some (rf 11 (0)), some (rf 14 (6)), some (.inr (.inl (n82))), none, some (.inl (Int32.ofInt 1)), some (.inl (Int32.ofInt 2)), some (.inr (.inl (((n161) + (v164)) + (v169)))), none, some (.inl (Int32.ofInt 5))] [.inl (Int32.ofInt 1)] σ (w, σ') := h
                                                                                                                        replace h := ei_c h rfl rfl rfl
                                                                                                                        rcases h with ⟨hp178, f, g, h⟩ | ⟨hp178, f, g, h⟩
                                                                                                                        · exact absurd (ic_eq.mp hp178) (by decide)
                                                                                                                        · skip
                                                                                                                          clear g
                                                                                                                          replace h : EV F f 177 z177 106 [some (rf 11 (0)), some (rf 14 (6)), some (.inr (.inl (n82))), none, some (.inl (Int32.ofInt 1)), some (.inl (Int32.ofInt 2)), some (.inr (.inl (((n161) + (v164)) + (v169)))), none, some (.inl (Int32.ofInt 5))] [] σ (w, σ') := h
                                                                                                                          replace h := ei_p h rfl rfl rfl rfl
                                                                                                                          obtain ⟨f, g, h⟩ := h
                                                                                                                          clear g
                                                                                                                          replace h : EV F f 177 z177 107 [some (rf 11 (0)), some (rf 14 (6)), some (.inr (.inl (n82))), none, some (.inl (Int32.ofInt 1)), some (.inl (Int32.ofInt 2)), some (.inr (.inl (((n161) + (v164)) + (v169)))), none, some (.inl (Int32.ofInt 5))] [rf 11 (0)] σ (w, σ') := h
                                                                                                                          replace h := ei_p h rfl rfl rfl rfl
                                                                                                                          obtain ⟨f, g, h⟩ := h
                                                                                                                          clear g
                                                                                                                          replace h : EV F f 177 z177 108 [some (rf 11 (0)), some (rf 14 (6)), some (.inr (.inl (n82))), none, some (.inl (Int32.ofInt 1)), some (.inl (Int32.ofInt 2)), some (.inr (.inl (((n161) + (v164)) + (v169)))), none, some (.inl (Int32.ofInt 5))] [.inl (Int32.ofInt (-1)), rf 11 (0)] σ (w, σ') := h
                                                                                                                          replace h := ei_p h rfl rfl rfl rfl
                                                                                                                          obtain ⟨f, g, h⟩ := h
                                                                                                                          clear g
                                                                                                                          replace h : EV F f 177 z177 110 [some (rf 11 (0)), some (rf 14 (6)), some (.inr (.inl (n82))), none, some (.inl (Int32.ofInt 1)), some (.inl (Int32.ofInt 2)), some (.inr (.inl (((n161) + (v164)) + (v169)))), none, some (.inl (Int32.ofInt 5))] [.inl (Int32.ofInt 2), .inl (Int32.ofInt (-1)), rf 11 (0)] σ (w, σ') := h
                                                                                                                          replace h := bx_L (ei_v (as := [.inl (Int32.ofInt 2), .inl (Int32.ofInt (-1))]) h rfl rfl rfl) z144_at rfl
                                                                                                                          rcases h with ⟨v179, σ180, r181, f, g, h⟩ | ⟨b, σ180, r181, e⟩
                                                                                                                          · skip
                                                                                                                            have er181 := ro2_run rfl r181
                                                                                                                            rw [er181] at h r181
                                                                                                                            clear g
                                                                                                                            have p182 := x144 hs.1 r181
                                                                                                                            refine Or.inl ⟨v179, p182, ?_⟩
                                                                                                                            replace h : EV F f 177 z177 113 [some (rf 11 (0)), some (rf 14 (6)), some (.inr (.inl (n82))), none, some (.inl (Int32.ofInt 1)), some (.inl (Int32.ofInt 2)), some (.inr (.inl (((n161) + (v164)) + (v169)))), none, some (.inl (Int32.ofInt 5))] [.inr (.inl (v179))] σ (w, σ') := h
                                                                                                                            replace h := ei_p h rfl rfl rfl rfl
                                                                                                                            obtain ⟨f, g, h⟩ := h
                                                                                                                            clear g
                                                                                                                            replace h : EV F f 177 z177 115 [some (rf 11 (0)), some (rf 14 (6)), some (.inr (.inl (n82))), none, some (.inl (Int32.ofInt 1)), some (.inl (Int32.ofInt 2)), some (.inr (.inl (v179))), none, some (.inl (Int32.ofInt 5))] [] σ (w, σ') := h
                                                                                                                            replace h := ei_p h rfl rfl rfl rfl
                                                                                                                            obtain ⟨f, g, h⟩ := h
                                                                                                                            clear g
                                                                                                                            replace h : EV F f 177 z177 116 [some (rf 11 (0)), some (rf 14 (6)), some (.inr (.inl (n82))), none, some (.inl (Int32.ofInt 1)), some (.inl (Int32.ofInt 2)), some (.inr (.inl (v179))), none, some (.inl (Int32.ofInt 5))] [.inl (Int32.ofInt 0)] σ (w, σ') := h
                                                                                                                            replace h := ei_p h rfl rfl rfl rfl
                                                                                                                            obtain ⟨f, g, h⟩ := h
                                                                                                                            clear g
                                                                                                                            replace h : EV F f 177 z177 118 [some (rf 11 (0)), some (rf 14 (6)), some (.inr (.inl (n82))), none, some (.inl (Int32.ofInt 1)), some (.inl (Int32.ofInt 2)), some (.inr (.inl (v179))), none, some (.inl (Int32.ofInt 0))] [] σ (w, σ') := h
                                                                                                                            replace h := ei_p h rfl rfl rfl rfl
                                                                                                                            obtain ⟨f, g, h⟩ := h
                                                                                                                            clear g
                                                                                                                            replace h : EV F f 177 z177 120 [some (rf 11 (0)), some (rf 14 (6)), some (.inr (.inl (n82))), none, some (.inl (Int32.ofInt 1)), some (.inl (Int32.ofInt 2)), some (.inr (.inl (v179))), none, some (.inl (Int32.ofInt 0))] [.inl (Int32.ofInt 0)] σ (w, σ') := h
                                                                                                                            replace h := ei_p h rfl rfl rfl rfl
                                                                                                                            obtain ⟨f, g, h⟩ := h
                                                                                                                            clear g
                                                                                                                            replace h : EV F f 177 z177 121 [some (rf 11 (0)), some (rf 14 (6)), some (.inr (.inl (n82))), none, some (.inl (Int32.ofInt 1)), some (.inl (Int32.ofInt 2)), some (.inr (.inl (v179))), none, some (.inl (Int32.ofInt 0))] [.inl (Int32.ofInt 5), .inl (Int32.ofInt 0)] σ (w, σ') := h
                                                                                                                            replace h := ei_c h rfl rfl rfl
                                                                                                                            rcases h with ⟨hp183, f, g, h⟩ | ⟨hp183, f, g, h⟩
                                                                                                                            · exact absurd (ic_ge.mp hp183) (by decide)
                                                                                                                            · skip
                                                                                                                              clear g
                                                                                                                              replace h : EV F f 177 z177 124 [some (rf 11 (0)), some (rf 14 (6)), some (.inr (.inl (n82))), none, some (.inl (Int32.ofInt 1)), some (.inl (Int32.ofInt 2)), some (.inr (.inl (v179))), none, some (.inl (Int32.ofInt 0))] [] σ (w, σ') := h
                                                                                                                              replace h := ei_p h rfl rfl rfl rfl
                                                                                                                              obtain ⟨f, g, h⟩ := h
                                                                                                                              clear g
                                                                                                                              replace h : EV F f 177 z177 126 [some (rf 11 (0)), some (rf 14 (6)), some (.inr (.inl (n82))), none, some (.inl (Int32.ofInt 1)), some (.inl (Int32.ofInt 2)), some (.inr (.inl (v179))), none, some (.inl (Int32.ofInt 0))] [.inr (.inl (v179))] σ (w, σ') := h
                                                                                                                              replace h := ei_p h rfl rfl rfl rfl
                                                                                                                              obtain ⟨f, g, h⟩ := h
                                                                                                                              clear g
                                                                                                                              replace h : EV F f 177 z177 127 [some (rf 11 (0)), some (rf 14 (6)), some (.inr (.inl (n82))), none, some (.inl (Int32.ofInt 1)), some (.inl (Int32.ofInt 2)), some (.inr (.inl (v179))), none, some (.inl (Int32.ofInt 0))] [rf 11 (0), .inr (.inl (v179))] σ (w, σ') := h
                                                                                                                              replace h := ei_p h rfl rfl rfl rfl
                                                                                                                              obtain ⟨f, g, h⟩ := h
                                                                                                                              clear g
                                                                                                                              replace h : EV F f 177 z177 129 [some (rf 11 (0)), some (rf 14 (6)), some (.inr (.inl (n82))), none, some (.inl (Int32.ofInt 1)), some (.inl (Int32.ofInt 2)), some (.inr (.inl (v179))), none, some (.inl (Int32.ofInt 0))] [.inl (Int32.ofInt 0), rf 11 (0), .inr (.inl (v179))] σ (w, σ') := h
                                                                                                                              replace h := ei_p h rfl rfl rfl rfl
                                                                                                                              obtain ⟨f, g, h⟩ := h
                                                                                                                              clear g
                                                                                                                              replace h : EV F f 177 z177 131 [some (rf 11 (0)), some (rf 14 (6)), some (.inr (.inl (n82))), none, some (.inl (Int32.ofInt 1)), some (.inl (Int32.ofInt 2)), some (.inr (.inl (v179))), none, some (.inl (Int32.ofInt 0))] [.inl (Int32.ofInt 2), .inl (Int32.ofInt 0), rf 11 (0), .inr (.inl (v179))] σ (w, σ') := h
                                                                                                                              replace h := bx_L (ei_v (as := [.inl (Int32.ofInt 2), .inl (Int32.ofInt 0)]) h rfl rfl rfl) z144_at rfl
                                                                                                                              rcases h with ⟨v184, σ185, r186, f, g, h⟩ | ⟨b, σ185, r186, e⟩
                                                                                                                              · skip
                                                                                                                                have er186 := ro2_run rfl r186
                                                                                                                                rw [er186] at h r186
                                                                                                                                clear g
                                                                                                                                have p187 := x144 hs.1 r186
                                                                                                                                refine Or.inl ⟨v184, p187, ?_⟩
                                                                                                                                replace h : EV F f 177 z177 134 [some (rf 11 (0)), some (rf 14 (6)), some (.inr (.inl (n82))), none, some (.inl (Int32.ofInt 1)), some (.inl (Int32.ofInt 2)), some (.inr (.inl (v179))), none, some (.inl (Int32.ofInt 0))] [.inr (.inl (v184)), .inr (.inl (v179))] σ (w, σ') := h
                                                                                                                                replace h := ei_p h rfl rfl rfl rfl
                                                                                                                                obtain ⟨f, g, h⟩ := h
                                                                                                                                clear g
                                                                                                                                replace h : EV F f 177 z177 135 [some (rf 11 (0)), some (rf 14 (6)), some (.inr (.inl (n82))), none, some (.inl (Int32.ofInt 1)), some (.inl (Int32.ofInt 2)), some (.inr (.inl (v179))), none, some (.inl (Int32.ofInt 0))] [.inr (.inl ((v179) + (v184)))] σ (w, σ') := h
                                                                                                                                replace h := ei_p h rfl rfl rfl rfl
                                                                                                                                obtain ⟨f, g, h⟩ := h
                                                                                                                                clear g
                                                                                                                                replace h : EV F f 177 z177 137 [some (rf 11 (0)), some (rf 14 (6)), some (.inr (.inl (n82))), none, some (.inl (Int32.ofInt 1)), some (.inl (Int32.ofInt 2)), some (.inr (.inl ((v179) + (v184)))), none, some (.inl (Int32.ofInt 0))] [] σ (w, σ') := h
                                                                                                                                replace h := ei_p h rfl rfl rfl rfl
                                                                                                                                obtain ⟨f, g, h⟩ := h
                                                                                                                                clear g
                                                                                                                                replace h : EV F f 177 z177 140 [some (rf 11 (0)), some (rf 14 (6)), some (.inr (.inl (n82))), none, some (.inl (Int32.ofInt 1)), some (.inl (Int32.ofInt 2)), some (.inr (.inl ((v179) + (v184)))), none, some (.inl ((Int32.ofInt 0) + Int32.ofInt 1))] [] σ (w, σ') := h
                                                                                                                                rw [show (Int32.ofInt 0) + Int32.ofInt 1 = Int32.ofInt 1 from by decide] at h
                                                                                                                                replace h : EV F f 177 z177 140 [some (rf 11 (0)), some (rf 14 (6)), some (.inr (.inl (n82))), none, some (.inl (Int32.ofInt 1)), some (.inl (Int32.ofInt 2)), some (.inr (.inl ((v179) + (v184)))), none, some (.inl (Int32.ofInt 1))] [] σ (w, σ') := h
                                                                                                                                replace h := ei_p h rfl rfl rfl rfl
                                                                                                                                obtain ⟨f, g, h⟩ := h
                                                                                                                                clear g
                                                                                                                                replace h : EV F f 177 z177 118 [some (rf 11 (0)), some (rf 14 (6)), some (.inr (.inl (n82))), none, some (.inl (Int32.ofInt 1)), some (.inl (Int32.ofInt 2)), some (.inr (.inl ((v179) + (v184)))), none, some (.inl (Int32.ofInt 1))] [] σ (w, σ') := h
                                                                                                                                replace h := ei_p h rfl rfl rfl rfl
                                                                                                                                obtain ⟨f, g, h⟩ := h
                                                                                                                                clear g
                                                                                                                                replace h : EV F f 177 z177 120 [some (rf 11 (0)), some (rf 14 (6)), some (.inr (.inl (n82))), none, some (.inl (Int32.ofInt 1)), some (.inl (Int32.ofInt 2)), some (.inr (.inl ((v179) + (v184)))), none, some (.inl (Int32.ofInt 1))] [.inl (Int32.ofInt 1)] σ (w, σ') := h
                                                                                                                                replace h := ei_p h rfl rfl rfl rfl
                                                                                                                                obtain ⟨f, g, h⟩ := h
                                                                                                                                clear g
                                                                                                                                replace h : EV F f 177 z177 121 [some (rf 11 (0)), some (rf 14 (6)), some (.inr (.inl (n82))), none, some (.inl (Int32.ofInt 1)), some (.inl (Int32.ofInt 2)), some (.inr (.inl ((v179) + (v184)))), none, some (.inl (Int32.ofInt 1))] [.inl (Int32.ofInt 5), .inl (Int32.ofInt 1)] σ (w, σ') := h
                                                                                                                                replace h := ei_c h rfl rfl rfl
                                                                                                                                rcases h with ⟨hp188, f, g, h⟩ | ⟨hp188, f, g, h⟩
                                                                                                                                · exact absurd (ic_ge.mp hp188) (by decide)
                                                                                                                                · skip
                                                                                                                                  clear g
                                                                                                                                  replace h : EV F f 177 z177 124 [some (rf 11 (0)), some (rf 14 (6)), some (.inr (.inl (n82))), none, some (.inl (Int32.ofInt 1)), some (.inl (Int32.ofInt 2)), some (.inr (.inl ((v179) + (v184)))), none, some (.inl (Int32.ofInt 1))] [] σ (w, σ') := h
                                                                                                                                  replace h := ei_p h rfl rfl rfl rfl
                                                                                                                                  obtain ⟨f, g, h⟩ := h
                                                                                                                                  clear g
                                                                                                                                  replace h : EV F f 177 z177 126 [some (rf 11 (0)), some (rf 14 (6)), some (.inr (.inl (n82))), none, some (.inl (Int32.ofInt 1)), some (.inl (Int32.ofInt 2)), some (.inr (.inl ((v179) + (v184)))), none, some (.inl (Int32.ofInt 1))] [.inr (.inl ((v179) + (v184)))] σ (w, σ') := h
                                                                                                                                  replace h := ei_p h rfl rfl rfl rfl
                                                                                                                                  obtain ⟨f, g, h⟩ := h
                                                                                                                                  clear g
                                                                                                                                  replace h : EV F f 177 z177 127 [some (rf 11 (0)), some (rf 14 (6)), some (.inr (.inl (n82))), none, some (.inl (Int32.ofInt 1)), some (.inl (Int32.ofInt 2)), some (.inr (.inl ((v179) + (v184)))), none, some (.inl (Int32.ofInt 1))] [rf 11 (0), .inr (.inl ((v179) + (v184)))] σ (w, σ') := h
                                                                                                                                  replace h := ei_p h rfl rfl rfl rfl
                                                                                                                                  obtain ⟨f, g, h⟩ := h
                                                                                                                                  clear g
                                                                                                                                  replace h : EV F f 177 z177 129 [some (rf 11 (0)), some (rf 14 (6)), some (.inr (.inl (n82))), none, some (.inl (Int32.ofInt 1)), some (.inl (Int32.ofInt 2)), some (.inr (.inl ((v179) + (v184)))), none, some (.inl (Int32.ofInt 1))] [.inl (Int32.ofInt 1), rf 11 (0), .inr (.inl ((v179) + (v184)))] σ (w, σ') := h
                                                                                                                                  replace h := ei_p h rfl rfl rfl rfl
                                                                                                                                  obtain ⟨f, g, h⟩ := h
                                                                                                                                  clear g
                                                                                                                                  replace h : EV F f 177 z177 131 [some (rf 11 (0)), some (rf 14 (6)), some (.inr (.inl (n82))), none, some (.inl (Int32.ofInt 1)), some (.inl (Int32.ofInt 2)), some (.inr (.inl ((v179) + (v184)))), none, some (.inl (Int32.ofInt 1))] [.inl (Int32.ofInt 2), .inl (Int32.ofInt 1), rf 11 (0), .inr (.inl ((v179) + (v184)))] σ (w, σ') := h
                                                                                                                                  replace h := bx_L (ei_v (as := [.inl (Int32.ofInt 2), .inl (Int32.ofInt 1)]) h rfl rfl rfl) z144_at rfl
                                                                                                                                  rcases h with ⟨v189, σ190, r191, f, g, h⟩ | ⟨b, σ190, r191, e⟩
                                                                                                                                  · skip
                                                                                                                                    have er191 := ro2_run rfl r191
                                                                                                                                    rw [er191] at h r191
                                                                                                                                    clear g
                                                                                                                                    have p192 := x144 hs.1 r191
                                                                                                                                    refine Or.inl ⟨v189, p192, ?_⟩
                                                                                                                                    replace h : EV F f 177 z177 134 [some (rf 11 (0)), some (rf 14 (6)), some (.inr (.inl (n82))), none, some (.inl (Int32.ofInt 1)), some (.inl (Int32.ofInt 2)), some (.inr (.inl ((v179) + (v184)))), none, some (.inl (Int32.ofInt 1))] [.inr (.inl (v189)), .inr (.inl ((v179) + (v184)))] σ (w, σ') := h
                                                                                                                                    replace h := ei_p h rfl rfl rfl rfl
                                                                                                                                    obtain ⟨f, g, h⟩ := h
                                                                                                                                    clear g
                                                                                                                                    replace h : EV F f 177 z177 135 [some (rf 11 (0)), some (rf 14 (6)), some (.inr (.inl (n82))), none, some (.inl (Int32.ofInt 1)), some (.inl (Int32.ofInt 2)), some (.inr (.inl ((v179) + (v184)))), none, some (.inl (Int32.ofInt 1))] [.inr (.inl (((v179) + (v184)) + (v189)))] σ (w, σ') := h
                                                                                                                                    replace h := ei_p h rfl rfl rfl rfl
                                                                                                                                    obtain ⟨f, g, h⟩ := h
                                                                                                                                    clear g
                                                                                                                                    replace h : EV F f 177 z177 137 [some (rf 11 (0)), some (rf 14 (6)), some (.inr (.inl (n82))), none, some (.inl (Int32.ofInt 1)), some (.inl (Int32.ofInt 2)), some (.inr (.inl (((v179) + (v184)) + (v189)))), none, some (.inl (Int32.ofInt 1))] [] σ (w, σ') := h
                                                                                                                                    replace h := ei_p h rfl rfl rfl rfl
                                                                                                                                    obtain ⟨f, g, h⟩ := h
                                                                                                                                    clear g
                                                                                                                                    replace h : EV F f 177 z177 140 [some (rf 11 (0)), some (rf 14 (6)), some (.inr (.inl (n82))), none, some (.inl (Int32.ofInt 1)), some (.inl (Int32.ofInt 2)), some (.inr (.inl (((v179) + (v184)) + (v189)))), none, some (.inl ((Int32.ofInt 1) + Int32.ofInt 1))] [] σ (w, σ') := h
                                                                                                                                    rw [show (Int32.ofInt 1) + Int32.ofInt 1 = Int32.ofInt 2 from by decide] at h
                                                                                                                                    replace h : EV F f 177 z177 140 [some (rf 11 (0)), some (rf 14 (6)), some (.inr (.inl (n82))), none, some (.inl (Int32.ofInt 1)), some (.inl (Int32.ofInt 2)), some (.inr (.inl (((v179) + (v184)) + (v189)))), none, some (.inl (Int32.ofInt 2))] [] σ (w, σ') := h
                                                                                                                                    replace h := ei_p h rfl rfl rfl rfl
                                                                                                                                    obtain ⟨f, g, h⟩ := h
                                                                                                                                    clear g
                                                                                                                                    replace h : EV F f 177 z177 118 [some (rf 11 (0)), some (rf 14 (6)), some (.inr (.inl (n82))), none, some (.inl (Int32.ofInt 1)), some (.inl (Int32.ofInt 2)), some (.inr (.inl (((v179) + (v184)) + (v189)))), none, some (.inl (Int32.ofInt 2))] [] σ (w, σ') := h
                                                                                                                                    replace h := ei_p h rfl rfl rfl rfl
                                                                                                                                    obtain ⟨f, g, h⟩ := h
                                                                                                                                    clear g
                                                                                                                                    replace h : EV F f 177 z177 120 [some (rf 11 (0)), some (rf 14 (6)), some (.inr (.inl (n82))), none, some (.inl (Int32.ofInt 1)), some (.inl (Int32.ofInt 2)), some (.inr (.inl (((v179) + (v184)) + (v189)))), none, some (.inl (Int32.ofInt 2))] [.inl (Int32.ofInt 2)] σ (w, σ') := h
                                                                                                                                    replace h := ei_p h rfl rfl rfl rfl
                                                                                                                                    obtain ⟨f, g, h⟩ := h
                                                                                                                                    clear g
                                                                                                                                    replace h : EV F f 177 z177 121 [some (rf 11 (0)), some (rf 14 (6)), some (.inr (.inl (n82))), none, some (.inl (Int32.ofInt 1)), some (.inl (Int32.ofInt 2)), some (.inr (.inl (((v179) + (v184)) + (v189)))), none, some (.inl (Int32.ofInt 2))] [.inl (Int32.ofInt 5), .inl (Int32.ofInt 2)] σ (w, σ') := h
                                                                                                                                    replace h := ei_c h rfl rfl rfl
                                                                                                                                    rcases h with ⟨hp193, f, g, h⟩ | ⟨hp193, f, g, h⟩
                                                                                                                                    · exact absurd (ic_ge.mp hp193) (by decide)
                                                                                                                                    · skip
                                                                                                                                      clear g
                                                                                                                                      replace h : EV F f 177 z177 124 [some (rf 11 (0)), some (rf 14 (6)), some (.inr (.inl (n82))), none, some (.inl (Int32.ofInt 1)), some (.inl (Int32.ofInt 2)), some (.inr (.inl (((v179) + (v184)) + (v189)))), none, some (.inl (Int32.ofInt 2))] [] σ (w, σ') := h
                                                                                                                                      replace h := ei_p h rfl rfl rfl rfl
                                                                                                                                      obtain ⟨f, g, h⟩ := h
                                                                                                                                      clear g
                                                                                                                                      replace h : EV F f 177 z177 126 [some (rf 11 (0)), some (rf 14 (6)), some (.inr (.inl (n82))), none, some (.inl (Int32.ofInt 1)), some (.inl (Int32.ofInt 2)), some (.inr (.inl (((v179) + (v184)) + (v189)))), none, some (.inl (Int32.ofInt 2))] [.inr (.inl (((v179) + (v184)) + (v189)))] σ (w, σ') := h
                                                                                                                                      replace h := ei_p h rfl rfl rfl rfl
                                                                                                                                      obtain ⟨f, g, h⟩ := h
                                                                                                                                      clear g
                                                                                                                                      replace h : EV F f 177 z177 127 [some (rf 11 (0)), some (rf 14 (6)), some (.inr (.inl (n82))), none, some (.inl (Int32.ofInt 1)), some (.inl (Int32.ofInt 2)), some (.inr (.inl (((v179) + (v184)) + (v189)))), none, some (.inl (Int32.ofInt 2))] [rf 11 (0), .inr (.inl (((v179) + (v184)) + (v189)))] σ (w, σ') := h
                                                                                                                                      replace h := ei_p h rfl rfl rfl rfl
                                                                                                                                      obtain ⟨f, g, h⟩ := h
                                                                                                                                      clear g
                                                                                                                                      replace h : EV F f 177 z177 129 [some (rf 11 (0)), some (rf 14 (6)), some (.inr (.inl (n82))), none, some (.inl (Int32.ofInt 1)), some (.inl (Int32.ofInt 2)), some (.inr (.inl (((v179) + (v184)) + (v189)))), none, some (.inl (Int32.ofInt 2))] [.inl (Int32.ofInt 2), rf 11 (0), .inr (.inl (((v179) + (v184)) + (v189)))] σ (w, σ') := h
                                                                                                                                      replace h := ei_p h rfl rfl rfl rfl
                                                                                                                                      obtain ⟨f, g, h⟩ := h
                                                                                                                                      clear g
                                                                                                                                      replace h : EV F f 177 z177 131 [some (rf 11 (0)), some (rf 14 (6)), some (.inr (.inl (n82))), none, some (.inl (Int32.ofInt 1)), some (.inl (Int32.ofInt 2)), some (.inr (.inl (((v179) + (v184)) + (v189)))), none, some (.inl (Int32.ofInt 2))] [.inl (Int32.ofInt 2), .inl (Int32.ofInt 2), rf 11 (0), .inr (.inl (((v179) + (v184)) + (v189)))] σ (w, σ') := h
                                                                                                                                      replace h := bx_L (ei_v (as := [.inl (Int32.ofInt 2), .inl (Int32.ofInt 2)]) h rfl rfl rfl) z144_at rfl
                                                                                                                                      rcases h with ⟨v194, σ195, r196, f, g, h⟩ | ⟨b, σ195, r196, e⟩
                                                                                                                                      · skip
                                                                                                                                        have er196 := ro2_run rfl r196
                                                                                                                                        rw [er196] at h r196
                                                                                                                                        clear g
                                                                                                                                        have p197 := x144 hs.1 r196
                                                                                                                                        refine Or.inl ⟨v194, p197, ?_⟩
                                                                                                                                        replace h : EV F f 177 z177 134 [some (rf 11 (0)), some (rf 14 (6)), some (.inr (.inl (n82))), none, some (.inl (Int32.ofInt 1)), some (.inl (Int32.ofInt 2)), some (.inr (.inl (((v179) + (v184)) + (v189)))), none, some (.inl (Int32.ofInt 2))] [.inr (.inl (v194)), .inr (.inl (((v179) + (v184)) + (v189)))] σ (w, σ') := h
                                                                                                                                        replace h := ei_p h rfl rfl rfl rfl
                                                                                                                                        obtain ⟨f, g, h⟩ := h
                                                                                                                                        clear g
                                                                                                                                        replace h : EV F f 177 z177 135 [some (rf 11 (0)), some (rf 14 (6)), some (.inr (.inl (n82))), none, some (.inl (Int32.ofInt 1)), some (.inl (Int32.ofInt 2)), some (.inr (.inl (((v179) + (v184)) + (v189)))), none, some (.inl (Int32.ofInt 2))] [.inr (.inl ((((v179) + (v184)) + (v189)) + (v194)))] σ (w, σ') := h
                                                                                                                                        replace h := ei_p h rfl rfl rfl rfl
                                                                                                                                        obtain ⟨f, g, h⟩ := h
                                                                                                                                        clear g
                                                                                                                                        replace h : EV F f 177 z177 137 [some (rf 11 (0)), some (rf 14 (6)), some (.inr (.inl (n82))), none, some (.inl (Int32.ofInt 1)), some (.inl (Int32.ofInt 2)), some (.inr (.inl ((((v179) + (v184)) + (v189)) + (v194)))), none, some (.inl (Int32.ofInt 2))] [] σ (w, σ') := h
                                                                                                                                        obtain ⟨n198, e199⟩ : ∃ s, s = (((v179) + (v184)) + (v189)) + (v194) := ⟨_, rfl⟩
                                                                                                                                        rw [← e199] at h
                                                                                                                                        refine ⟨n198, e199, ?_⟩
                                                                                                                                        replace h : EV F f 177 z177 137 [some (rf 11 (0)), some (rf 14 (6)), some (.inr (.inl (n82))), none, some (.inl (Int32.ofInt 1)), some (.inl (Int32.ofInt 2)), some (.inr (.inl (n198))), none, some (.inl (Int32.ofInt 2))] [] σ (w, σ') := h
                                                                                                                                        replace h := ei_p h rfl rfl rfl rfl
                                                                                                                                        obtain ⟨f, g, h⟩ := h
                                                                                                                                        clear g
                                                                                                                                        replace h : EV F f 177 z177 140 [some (rf 11 (0)), some (rf 14 (6)), some (.inr (.inl (n82))), none, some (.inl (Int32.ofInt 1)), some (.inl (Int32.ofInt 2)), some (.inr (.inl (n198))), none, some (.inl ((Int32.ofInt 2) + Int32.ofInt 1))] [] σ (w, σ') := h
                                                                                                                                        rw [show (Int32.ofInt 2) + Int32.ofInt 1 = Int32.ofInt 3 from by decide] at h
                                                                                                                                        replace h : EV F f 177 z177 140 [some (rf 11 (0)), some (rf 14 (6)), some (.inr (.inl (n82))), none, some (.inl (Int32.ofInt 1)), some (.inl (Int32.ofInt 2)), some (.inr (.inl (n198))), none, some (.inl (Int32.ofInt 3))] [] σ (w, σ') := h
                                                                                                                                        replace h := ei_p h rfl rfl rfl rfl
                                                                                                                                        obtain ⟨f, g, h⟩ := h
                                                                                                                                        clear g
                                                                                                                                        replace h : EV F f 177 z177 118 [some (rf 11 (0)), some (rf 14 (6)), some (.inr (.inl (n82))), none, some (.inl (Int32.ofInt 1)), some (.inl (Int32.ofInt 2)), some (.inr (.inl (n198))), none, some (.inl (Int32.ofInt 3))] [] σ (w, σ') := h
                                                                                                                                        replace h := ei_p h rfl rfl rfl rfl
                                                                                                                                        obtain ⟨f, g, h⟩ := h
                                                                                                                                        clear g
                                                                                                                                        replace h : EV F f 177 z177 120 [some (rf 11 (0)), some (rf 14 (6)), some (.inr (.inl (n82))), none, some (.inl (Int32.ofInt 1)), some (.inl (Int32.ofInt 2)), some (.inr (.inl (n198))), none, some (.inl (Int32.ofInt 3))] [.inl (Int32.ofInt 3)] σ (w, σ') := h
                                                                                                                                        replace h := ei_p h rfl rfl rfl rfl
                                                                                                                                        obtain ⟨f, g, h⟩ := h
                                                                                                                                        clear g
                                                                                                                                        replace h : EV F f 177 z177 121 [some (rf 11 (0)), some (rf 14 (6)), some (.inr (.inl (n82))), none, some (.inl (Int32.ofInt 1)), some (.inl (Int32.ofInt 2)), some (.inr (.inl (n198))), none, some (.inl (Int32.ofInt 3))] [.inl (Int32.ofInt 5), .inl (Int32.ofInt 3)] σ (w, σ') := h
                                                                                                                                        replace h := ei_c h rfl rfl rfl
                                                                                                                                        rcases h with ⟨hp200, f, g, h⟩ | ⟨hp200, f, g, h⟩
                                                                                                                                        · exact absurd (ic_ge.mp hp200) (by decide)
                                                                                                                                        · skip
                                                                                                                                          clear g
                                                                                                                                          replace h : EV F f 177 z177 124 [some (rf 11 (0)), some (rf 14 (6)), some (.inr (.inl (n82))), none, some (.inl (Int32.ofInt 1)), some (.inl (Int32.ofInt 2)), some (.inr (.inl (n198))), none, some (.inl (Int32.ofInt 3))] [] σ (w, σ') := h
                                                                                                                                          replace h := ei_p h rfl rfl rfl rfl
                                                                                                                                          obtain ⟨f, g, h⟩ := h
                                                                                                                                          clear g
                                                                                                                                          replace h : EV F f 177 z177 126 [some (rf 11 (0)), some (rf 14 (6)), some (.inr (.inl (n82))), none, some (.inl (Int32.ofInt 1)), some (.inl (Int32.ofInt 2)), some (.inr (.inl (n198))), none, some (.inl (Int32.ofInt 3))] [.inr (.inl (n198))] σ (w, σ') := h
                                                                                                                                          replace h := ei_p h rfl rfl rfl rfl
                                                                                                                                          obtain ⟨f, g, h⟩ := h
                                                                                                                                          clear g
                                                                                                                                          replace h : EV F f 177 z177 127 [some (rf 11 (0)), some (rf 14 (6)), some (.inr (.inl (n82))), none, some (.inl (Int32.ofInt 1)), some (.inl (Int32.ofInt 2)), some (.inr (.inl (n198))), none, some (.inl (Int32.ofInt 3))] [rf 11 (0), .inr (.inl (n198))] σ (w, σ') := h
                                                                                                                                          replace h := ei_p h rfl rfl rfl rfl
                                                                                                                                          obtain ⟨f, g, h⟩ := h
                                                                                                                                          clear g
                                                                                                                                          replace h : EV F f 177 z177 129 [some (rf 11 (0)), some (rf 14 (6)), some (.inr (.inl (n82))), none, some (.inl (Int32.ofInt 1)), some (.inl (Int32.ofInt 2)), some (.inr (.inl (n198))), none, some (.inl (Int32.ofInt 3))] [.inl (Int32.ofInt 3), rf 11 (0), .inr (.inl (n198))] σ (w, σ') := h
                                                                                                                                          replace h := ei_p h rfl rfl rfl rfl
                                                                                                                                          obtain ⟨f, g, h⟩ := h
                                                                                                                                          clear g
                                                                                                                                          replace h : EV F f 177 z177 131 [some (rf 11 (0)), some (rf 14 (6)), some (.inr (.inl (n82))), none, some (.inl (Int32.ofInt 1)), some (.inl (Int32.ofInt 2)), some (.inr (.inl (n198))), none, some (.inl (Int32.ofInt 3))] [.inl (Int32.ofInt 2), .inl (Int32.ofInt 3), rf 11 (0), .inr (.inl (n198))] σ (w, σ') := h
                                                                                                                                          replace h := bx_L (ei_v (as := [.inl (Int32.ofInt 2), .inl (Int32.ofInt 3)]) h rfl rfl rfl) z144_at rfl
                                                                                                                                          rcases h with ⟨v201, σ202, r203, f, g, h⟩ | ⟨b, σ202, r203, e⟩
                                                                                                                                          · skip
                                                                                                                                            have er203 := ro2_run rfl r203
                                                                                                                                            rw [er203] at h r203
                                                                                                                                            clear g
                                                                                                                                            have p204 := x144 hs.1 r203
                                                                                                                                            refine Or.inl ⟨v201, p204, ?_⟩
                                                                                                                                            replace h : EV F f 177 z177 134 [some (rf 11 (0)), some (rf 14 (6)), some (.inr (.inl (n82))), none, some (.inl (Int32.ofInt 1)), some (.inl (Int32.ofInt 2)), some (.inr (.inl (n198))), none, some (.inl (Int32.ofInt 3))] [.inr (.inl (v201)), .inr (.inl (n198))] σ (w, σ') := h
                                                                                                                                            replace h := ei_p h rfl rfl rfl rfl
                                                                                                                                            obtain ⟨f, g, h⟩ := h
                                                                                                                                            clear g
                                                                                                                                            replace h : EV F f 177 z177 135 [some (rf 11 (0)), some (rf 14 (6)), some (.inr (.inl (n82))), none, some (.inl (Int32.ofInt 1)), some (.inl (Int32.ofInt 2)), some (.inr (.inl (n198))), none, some (.inl (Int32.ofInt 3))] [.inr (.inl ((n198) + (v201)))] σ (w, σ') := h
                                                                                                                                            replace h := ei_p h rfl rfl rfl rfl
                                                                                                                                            obtain ⟨f, g, h⟩ := h
                                                                                                                                            clear g
                                                                                                                                            replace h : EV F f 177 z177 137 [some (rf 11 (0)), some (rf 14 (6)), some (.inr (.inl (n82))), none, some (.inl (Int32.ofInt 1)), some (.inl (Int32.ofInt 2)), some (.inr (.inl ((n198) + (v201)))), none, some (.inl (Int32.ofInt 3))] [] σ (w, σ') := h
                                                                                                                                            replace h := ei_p h rfl rfl rfl rfl
                                                                                                                                            obtain ⟨f, g, h⟩ := h
                                                                                                                                            clear g
                                                                                                                                            replace h : EV F f 177 z177 140 [some (rf 11 (0)), some (rf 14 (6)), some (.inr (.inl (n82))), none, some (.inl (Int32.ofInt 1)), some (.inl (Int32.ofInt 2)), some (.inr (.inl ((n198) + (v201)))), none, some (.inl ((Int32.ofInt 3) + Int32.ofInt 1))] [] σ (w, σ') := h
                                                                                                                                            rw [show (Int32.ofInt 3) + Int32.ofInt 1 = Int32.ofInt 4 from by decide] at h
                                                                                                                                            replace h : EV F f 177 z177 140 [some (rf 11 (0)), some (rf 14 (6)), some (.inr (.inl (n82))), none, some (.inl (Int32.ofInt 1)), some (.inl (Int32.ofInt 2)), some (.inr (.inl ((n198) + (v201)))), none, some (.inl (Int32.ofInt 4))] [] σ (w, σ') := h
                                                                                                                                            replace h := ei_p h rfl rfl rfl rfl
                                                                                                                                            obtain ⟨f, g, h⟩ := h
                                                                                                                                            clear g
                                                                                                                                            replace h : EV F f 177 z177 118 [some (rf 11 (0)), some (rf 14 (6)), some (.inr (.inl (n82))), none, some (.inl (Int32.ofInt 1)), some (.inl (Int32.ofInt 2)), some (.inr (.inl ((n198) + (v201)))), none, some (.inl (Int32.ofInt 4))] [] σ (w, σ') := h
                                                                                                                                            replace h := ei_p h rfl rfl rfl rfl
                                                                                                                                            obtain ⟨f, g, h⟩ := h
                                                                                                                                            clear g
                                                                                                                                            replace h : EV F f 177 z177 120 [some (rf 11 (0)), some (rf 14 (6)), some (.inr (.inl (n82))), none, some (.inl (Int32.ofInt 1)), some (.inl (Int32.ofInt 2)), some (.inr (.inl ((n198) + (v201)))), none, some (.inl (Int32.ofInt 4))] [.inl (Int32.ofInt 4)] σ (w, σ') := h
                                                                                                                                            replace h := ei_p h rfl rfl rfl rfl
                                                                                                                                            obtain ⟨f, g, h⟩ := h
                                                                                                                                            clear g
                                                                                                                                            replace h : EV F f 177 z177 121 [some (rf 11 (0)), some (rf 14 (6)), some (.inr (.inl (n82))), none, some (.inl (Int32.ofInt 1)), some (.inl (Int32.ofInt 2)), some (.inr (.inl ((n198) + (v201)))), none, some (.inl (Int32.ofInt 4))] [.inl (Int32.ofInt 5), .inl (Int32.ofInt 4)] σ (w, σ') := h
                                                                                                                                            replace h := ei_c h rfl rfl rfl
                                                                                                                                            rcases h with ⟨hp205, f, g, h⟩ | ⟨hp205, f, g, h⟩
                                                                                                                                            · exact absurd (ic_ge.mp hp205) (by decide)
                                                                                                                                            · skip
                                                                                                                                              clear g
                                                                                                                                              replace h : EV F f 177 z177 124 [some (rf 11 (0)), some (rf 14 (6)), some (.inr (.inl (n82))), none, some (.inl (Int32.ofInt 1)), some (.inl (Int32.ofInt 2)), some (.inr (.inl ((n198) + (v201)))), none, some (.inl (Int32.ofInt 4))] [] σ (w, σ') := h
                                                                                                                                              replace h := ei_p h rfl rfl rfl rfl
                                                                                                                                              obtain ⟨f, g, h⟩ := h
                                                                                                                                              clear g
                                                                                                                                              replace h : EV F f 177 z177 126 [some (rf 11 (0)), some (rf 14 (6)), some (.inr (.inl (n82))), none, some (.inl (Int32.ofInt 1)), some (.inl (Int32.ofInt 2)), some (.inr (.inl ((n198) + (v201)))), none, some (.inl (Int32.ofInt 4))] [.inr (.inl ((n198) + (v201)))] σ (w, σ') := h
                                                                                                                                              replace h := ei_p h rfl rfl rfl rfl
                                                                                                                                              obtain ⟨f, g, h⟩ := h
                                                                                                                                              clear g
                                                                                                                                              replace h : EV F f 177 z177 127 [some (rf 11 (0)), some (rf 14 (6)), some (.inr (.inl (n82))), none, some (.inl (Int32.ofInt 1)), some (.inl (Int32.ofInt 2)), some (.inr (.inl ((n198) + (v201)))), none, some (.inl (Int32.ofInt 4))] [rf 11 (0), .inr (.inl ((n198) + (v201)))] σ (w, σ') := h
                                                                                                                                              replace h := ei_p h rfl rfl rfl rfl
                                                                                                                                              obtain ⟨f, g, h⟩ := h
                                                                                                                                              clear g
                                                                                                                                              replace h : EV F f 177 z177 129 [some (rf 11 (0)), some (rf 14 (6)), some (.inr (.inl (n82))), none, some (.inl (Int32.ofInt 1)), some (.inl (Int32.ofInt 2)), some (.inr (.inl ((n198) + (v201)))), none, some (.inl (Int32.ofInt 4))] [.inl (Int32.ofInt 4), rf 11 (0), .inr (.inl ((n198) + (v201)))] σ (w, σ') := h
                                                                                                                                              replace h := ei_p h rfl rfl rfl rfl
                                                                                                                                              obtain ⟨f, g, h⟩ := h
                                                                                                                                              clear g
                                                                                                                                              replace h : EV F f 177 z177 131 [some (rf 11 (0)), some (rf 14 (6)), some (.inr (.inl (n82))), none, some (.inl (Int32.ofInt 1)), some (.inl (Int32.ofInt 2)), some (.inr (.inl ((n198) + (v201)))), none, some (.inl (Int32.ofInt 4))] [.inl (Int32.ofInt 2), .inl (Int32.ofInt 4), rf 11 (0), .inr (.inl ((n198) + (v201)))] σ (w, σ') := h
                                                                                                                                              replace h := bx_L (ei_v (as := [.inl (Int32.ofInt 2), .inl (Int32.ofInt 4)]) h rfl rfl rfl) z144_at rfl
                                                                                                                                              rcases h with ⟨v206, σ207, r208, f, g, h⟩ | ⟨b, σ207, r208, e⟩
                                                                                                                                              · skip
                                                                                                                                                have er208 := ro2_run rfl r208
                                                                                                                                                rw [er208] at h r208
                                                                                                                                                clear g
                                                                                                                                                have p209 := x144 hs.1 r208
                                                                                                                                                refine Or.inl ⟨v206, p209, ?_⟩
                                                                                                                                                replace h : EV F f 177 z177 134 [some (rf 11 (0)), some (rf 14 (6)), some (.inr (.inl (n82))), none, some (.inl (Int32.ofInt 1)), some (.inl (Int32.ofInt 2)), some (.inr (.inl ((n198) + (v201)))), none, some (.inl (Int32.ofInt 4))] [.inr (.inl (v206)), .inr (.inl ((n198) + (v201)))] σ (w, σ') := h
                                                                                                                                                replace h := ei_p h rfl rfl rfl rfl
                                                                                                                                                obtain ⟨f, g, h⟩ := h
                                                                                                                                                clear g
                                                                                                                                                replace h : EV F f 177 z177 135 [some (rf 11 (0)), some (rf 14 (6)), some (.inr (.inl (n82))), none, some (.inl (Int32.ofInt 1)), some (.inl (Int32.ofInt 2)), some (.inr (.inl ((n198) + (v201)))), none, some (.inl (Int32.ofInt 4))] [.inr (.inl (((n198) + (v201)) + (v206)))] σ (w, σ') := h
                                                                                                                                                replace h := ei_p h rfl rfl rfl rfl
                                                                                                                                                obtain ⟨f, g, h⟩ := h
                                                                                                                                                clear g
                                                                                                                                                replace h : EV F f 177 z177 137 [some (rf 11 (0)), some (rf 14 (6)), some (.inr (.inl (n82))), none, some (.inl (Int32.ofInt 1)), some (.inl (Int32.ofInt 2)), some (.inr (.inl (((n198) + (v201)) + (v206)))), none, some (.inl (Int32.ofInt 4))] [] σ (w, σ') := h
                                                                                                                                                replace h := ei_p h rfl rfl rfl rfl
                                                                                                                                                obtain ⟨f, g, h⟩ := h
                                                                                                                                                clear g
                                                                                                                                                replace h : EV F f 177 z177 140 [some (rf 11 (0)), some (rf 14 (6)), some (.inr (.inl (n82))), none, some (.inl (Int32.ofInt 1)), some (.inl (Int32.ofInt 2)), some (.inr (.inl (((n198) + (v201)) + (v206)))), none, some (.inl ((Int32.ofInt 4) + Int32.ofInt 1))] [] σ (w, σ') := h
                                                                                                                                                rw [show (Int32.ofInt 4) + Int32.ofInt 1 = Int32.ofInt 5 from by decide] at h
                                                                                                                                                replace h : EV F f 177 z177 140 [some (rf 11 (0)), some (rf 14 (6)), some (.inr (.inl (n82))), none, some (.inl (Int32.ofInt 1)), some (.inl (Int32.ofInt 2)), some (.inr (.inl (((n198) + (v201)) + (v206)))), none, some (.inl (Int32.ofInt 5))] [] σ (w, σ') := h
                                                                                                                                                replace h := ei_p h rfl rfl rfl rfl
                                                                                                                                                obtain ⟨f, g, h⟩ := h
                                                                                                                                                clear g
                                                                                                                                                replace h : EV F f 177 z177 118 [some (rf 11 (0)), some (rf 14 (6)), some (.inr (.inl (n82))), none, some (.inl (Int32.ofInt 1)), some (.inl (Int32.ofInt 2)), some (.inr (.inl (((n198) + (v201)) + (v206)))), none, some (.inl (Int32.ofInt 5))] [] σ (w, σ') := h
                                                                                                                                                replace h := ei_p h rfl rfl rfl rfl
                                                                                                                                                obtain ⟨f, g, h⟩ := h
                                                                                                                                                clear g
                                                                                                                                                replace h : EV F f 177 z177 120 [some (rf 11 (0)), some (rf 14 (6)), some (.inr (.inl (n82))), none, some (.inl (Int32.ofInt 1)), some (.inl (Int32.ofInt 2)), some (.inr (.inl (((n198) + (v201)) + (v206)))), none, some (.inl (Int32.ofInt 5))] [.inl (Int32.ofInt 5)] σ (w, σ') := h
                                                                                                                                                replace h := ei_p h rfl rfl rfl rfl
                                                                                                                                                obtain ⟨f, g, h⟩ := h
                                                                                                                                                clear g
                                                                                                                                                replace h : EV F f 177 z177 121 [some (rf 11 (0)), some (rf 14 (6)), some (.inr (.inl (n82))), none, some (.inl (Int32.ofInt 1)), some (.inl (Int32.ofInt 2)), some (.inr (.inl (((n198) + (v201)) + (v206)))), none, some (.inl (Int32.ofInt 5))] [.inl (Int32.ofInt 5), .inl (Int32.ofInt 5)] σ (w, σ') := h
                                                                                                                                                replace h := ei_c h rfl rfl rfl
                                                                                                                                                rcases h with ⟨hp210, f, g, h⟩ | ⟨hp210, f, g, h⟩
                                                                                                                                                · skip
                                                                                                                                                  clear g
                                                                                                                                                  replace h : EV F f 177 z177 143 [some (rf 11 (0)), some (rf 14 (6)), some (.inr (.inl (n82))), none, some (.inl (Int32.ofInt 1)), some (.inl (Int32.ofInt 2)), some (.inr (.inl (((n198) + (v201)) + (v206)))), none, some (.inl (Int32.ofInt 5))] [] σ (w, σ') := h
                                                                                                                                                  replace h := ei_p h rfl rfl rfl rfl
                                                                                                                                                  obtain ⟨f, g, h⟩ := h
                                                                                                                                                  clear g
                                                                                                                                                  replace h : EV F f 177 z177 145 [some (rf 11 (0)), some (rf 14 (6)), some (.inr (.inl (n82))), none, some (.inl (Int32.ofInt 1)), some (.inl (Int32.ofInt 2)), some (.inr (.inl (((n198) + (v201)) + (v206)))), none, some (.inl (Int32.ofInt 5))] [.inr (.inl (((n198) + (v201)) + (v206)))] σ (w, σ') := h
                                                                                                                                                  replace h := ei_p h rfl rfl rfl rfl
                                                                                                                                                  obtain ⟨f, g, h⟩ := h
                                                                                                                                                  clear g
                                                                                                                                                  replace h : EV F f 177 z177 146 [some (rf 11 (0)), some (rf 14 (6)), some (.inr (.inl (n82))), none, some (.inl (Int32.ofInt 1)), some (.inl (Int32.ofInt 2)), some (.inr (.inl (((n198) + (v201)) + (v206)))), none, some (.inl (Int32.ofInt 5))] [.inr (.inl (Int64.ofNat 0)), .inr (.inl (((n198) + (v201)) + (v206)))] σ (w, σ') := h
                                                                                                                                                  replace h := ei_p h rfl rfl rfl rfl
                                                                                                                                                  obtain ⟨f, g, h⟩ := h
                                                                                                                                                  clear g
                                                                                                                                                  replace h : EV F f 177 z177 147 [some (rf 11 (0)), some (rf 14 (6)), some (.inr (.inl (n82))), none, some (.inl (Int32.ofInt 1)), some (.inl (Int32.ofInt 2)), some (.inr (.inl (((n198) + (v201)) + (v206)))), none, some (.inl (Int32.ofInt 5))] [.inl (lg_cmp (((n198) + (v201)) + (v206)) (Int64.ofNat 0))] σ (w, σ') := h
                                                                                                                                                  replace h := ei_c h rfl rfl rfl
                                                                                                                                                  rcases h with ⟨hp211, f, g, h⟩ | ⟨hp211, f, g, h⟩
                                                                                                                                                  · skip
                                                                                                                                                    replace hp211 : (((n198) + (v201)) + (v206)).toInt ≠ (Int64.ofNat 0).toInt := (ab_lc .ne _ _).mp hp211
                                                                                                                                                    refine Or.inl ⟨hp211, ?_⟩
                                                                                                                                                    clear g
                                                                                                                                                    replace h : EV F f 177 z177 154 [some (rf 11 (0)), some (rf 14 (6)), some (.inr (.inl (n82))), none, some (.inl (Int32.ofInt 1)), some (.inl (Int32.ofInt 2)), some (.inr (.inl (((n198) + (v201)) + (v206)))), none, some (.inl (Int32.ofInt 5))] [] σ (w, σ') := h
                                                                                                                                                    replace h := ei_p h rfl rfl rfl rfl
                                                                                                                                                    obtain ⟨f, g, h⟩ := h
                                                                                                                                                    clear g
                                                                                                                                                    replace h : EV F f 177 z177 155 [some (rf 11 (0)), some (rf 14 (6)), some (.inr (.inl (n82))), none, some (.inl (Int32.ofInt 1)), some (.inl (Int32.ofInt 2)), some (.inr (.inl (((n198) + (v201)) + (v206)))), none, some (.inl (Int32.ofInt 5))] [.inl (Int32.ofInt 0)] σ (w, σ') := h
                                                                                                                                                    replace h := ei_p h rfl rfl rfl rfl
                                                                                                                                                    obtain ⟨f, g, h⟩ := h
                                                                                                                                                    clear g
                                                                                                                                                    replace h : EV F f 177 z177 157 [some (rf 11 (0)), some (rf 14 (6)), some (.inr (.inl (n82))), none, some (.inl (Int32.ofInt 0)), some (.inl (Int32.ofInt 2)), some (.inr (.inl (((n198) + (v201)) + (v206)))), none, some (.inl (Int32.ofInt 5))] [] σ (w, σ') := h
                                                                                                                                                    replace h := ei_p h rfl rfl rfl rfl
                                                                                                                                                    obtain ⟨f, g, h⟩ := h
                                                                                                                                                    clear g
                                                                                                                                                    replace h : EV F f 177 z177 160 [some (rf 11 (0)), some (rf 14 (6)), some (.inr (.inl (n82))), none, some (.inl (Int32.ofInt 0)), some (.inl ((Int32.ofInt 2) + Int32.ofInt 1)), some (.inr (.inl (((n198) + (v201)) + (v206)))), none, some (.inl (Int32.ofInt 5))] [] σ (w, σ') := h
                                                                                                                                                    rw [show (Int32.ofInt 2) + Int32.ofInt 1 = Int32.ofInt 3 from by decide] at h
                                                                                                                                                    replace h : EV F f 177 z177 160 [some (rf 11 (0)), some (rf 14 (6)), some (.inr (.inl (n82))), none, some (.inl (Int32.ofInt 0)), some (.inl (Int32.ofInt 3)), some (.inr (.inl (((n198) + (v201)) + (v206)))), none, some (.inl (Int32.ofInt 5))] [] σ (w, σ') := h
                                                                                                                                                    replace h := ei_p h rfl rfl rfl rfl
                                                                                                                                                    obtain ⟨f, g, h⟩ := h
                                                                                                                                                    clear g
                                                                                                                                                    replace h : EV F f 177 z177 95 [some (rf 11 (0)), some (rf 14 (6)), some (.inr (.inl (n82))), none, some (.inl (Int32.ofInt 0)), some (.inl (Int32.ofInt 3)), some (.inr (.inl (((n198) + (v201)) + (v206)))), none, some (.inl (Int32.ofInt 5))] [] σ (w, σ') := h
                                                                                                                                                    replace h := ei_p h rfl rfl rfl rfl
                                                                                                                                                    obtain ⟨f, g, h⟩ := h
                                                                                                                                                    clear g
                                                                                                                                                    replace h : EV F f 177 z177 97 [some (rf 11 (0)), some (rf 14 (6)), some (.inr (.inl (n82))), none, some (.inl (Int32.ofInt 0)), some (.inl (Int32.ofInt 3)), some (.inr (.inl (((n198) + (v201)) + (v206)))), none, some (.inl (Int32.ofInt 5))] [.inl (Int32.ofInt 3)] σ (w, σ') := h
                                                                                                                                                    replace h := ei_p h rfl rfl rfl rfl
                                                                                                                                                    obtain ⟨f, g, h⟩ := h
                                                                                                                                                    clear g
                                                                                                                                                    replace h : EV F f 177 z177 98 [some (rf 11 (0)), some (rf 14 (6)), some (.inr (.inl (n82))), none, some (.inl (Int32.ofInt 0)), some (.inl (Int32.ofInt 3)), some (.inr (.inl (((n198) + (v201)) + (v206)))), none, some (.inl (Int32.ofInt 5))] [.inl (Int32.ofInt 3), .inl (Int32.ofInt 3)] σ (w, σ') := h
                                                                                                                                                    replace h := ei_c h rfl rfl rfl
                                                                                                                                                    rcases h with ⟨hp212, f, g, h⟩ | ⟨hp212, f, g, h⟩
                                                                                                                                                    · skip
                                                                                                                                                      clear g
                                                                                                                                                      replace h : EV F f 177 z177 163 [some (rf 11 (0)), some (rf 14 (6)), some (.inr (.inl (n82))), none, some (.inl (Int32.ofInt 0)), some (.inl (Int32.ofInt 3)), some (.inr (.inl (((n198) + (v201)) + (v206)))), none, some (.inl (Int32.ofInt 5))] [] σ (w, σ') := h
                                                                                                                                                      replace h := ei_p h rfl rfl rfl rfl
                                                                                                                                                      obtain ⟨f, g, h⟩ := h
                                                                                                                                                      clear g
                                                                                                                                                      replace h : EV F f 177 z177 165 [some (rf 11 (0)), some (rf 14 (6)), some (.inr (.inl (n82))), none, some (.inl (Int32.ofInt 0)), some (.inl (Int32.ofInt 3)), some (.inr (.inl (((n198) + (v201)) + (v206)))), none, some (.inl (Int32.ofInt 5))] [.inl (Int32.ofInt 0)] σ (w, σ') := h
                                                                                                                                                      have e := ei_iret h rfl
                                                                                                                                                      cases e
                                                                                                                                                      exact ⟨rfl, rfl⟩
                                                                                                                                                    · exact absurd (ic_ge.mpr (by decide)) hp212
                                                                                                                                                  · skip
                                                                                                                                                    replace hp211 : ¬ ((((n198) + (v201)) + (v206)).toInt ≠ (Int64.ofNat 0).toInt) := (not_congr (ab_lc .ne _ _)).mp hp211
                                                                                                                                                    refine Or.inr ⟨hp211, ?_⟩
                                                                                                                                                    clear g
                                                                                                                                                    replace h : EV F f 177 z177 150 [some (rf 11 (0)), some (rf 14 (6)), some (.inr (.inl (n82))), none, some (.inl (Int32.ofInt 1)), some (.inl (Int32.ofInt 2)), some (.inr (.inl (((n198) + (v201)) + (v206)))), none, some (.inl (Int32.ofInt 5))] [] σ (w, σ') := h
                                                                                                                                                    replace h := ei_p h rfl rfl rfl rfl
                                                                                                                                                    obtain ⟨f, g, h⟩ := h
                                                                                                                                                    clear g
                                                                                                                                                    replace h : EV F f 177 z177 151 [some (rf 11 (0)), some (rf 14 (6)), some (.inr (.inl (n82))), none, some (.inl (Int32.ofInt 1)), some (.inl (Int32.ofInt 2)), some (.inr (.inl (((n198) + (v201)) + (v206)))), none, some (.inl (Int32.ofInt 5))] [.inl (Int32.ofInt 1)] σ (w, σ') := h
                                                                                                                                                    replace h := ei_p h rfl rfl rfl rfl
                                                                                                                                                    obtain ⟨f, g, h⟩ := h
                                                                                                                                                    clear g
                                                                                                                                                    replace h : EV F f 177 z177 155 [some (rf 11 (0)), some (rf 14 (6)), some (.inr (.inl (n82))), none, some (.inl (Int32.ofInt 1)), some (.inl (Int32.ofInt 2)), some (.inr (.inl (((n198) + (v201)) + (v206)))), none, some (.inl (Int32.ofInt 5))] [.inl (Int32.ofInt 1)] σ (w, σ') := h
                                                                                                                                                    replace h := ei_p h rfl rfl rfl rfl
                                                                                                                                                    obtain ⟨f, g, h⟩ := h
                                                                                                                                                    clear g
                                                                                                                                                    replace h : EV F f 177 z177 157 [some (rf 11 (0)), some (rf 14 (6)), some (.inr (.inl (n82))), none, some (.inl (Int32.ofInt 1)), some (.inl (Int32.ofInt 2)), some (.inr (.inl (((n198) + (v201)) + (v206)))), none, some (.inl (Int32.ofInt 5))] [] σ (w, σ') := h
                                                                                                                                                    replace h := ei_p h rfl rfl rfl rfl
                                                                                                                                                    obtain ⟨f, g, h⟩ := h
                                                                                                                                                    clear g
                                                                                                                                                    replace h : EV F f 177 z177 160 [some (rf 11 (0)), some (rf 14 (6)), some (.inr (.inl (n82))), none, some (.inl (Int32.ofInt 1)), some (.inl ((Int32.ofInt 2) + Int32.ofInt 1)), some (.inr (.inl (((n198) + (v201)) + (v206)))), none, some (.inl (Int32.ofInt 5))] [] σ (w, σ') := h
                                                                                                                                                    rw [show (Int32.ofInt 2) + Int32.ofInt 1 = Int32.ofInt 3 from by decide] at h
                                                                                                                                                    replace h : EV F f 177 z177 160 [some (rf 11 (0)), some (rf 14 (6)), some (.inr (.inl (n82))), none, some (.inl (Int32.ofInt 1)), some (.inl (Int32.ofInt 3)), some (.inr (.inl (((n198) + (v201)) + (v206)))), none, some (.inl (Int32.ofInt 5))] [] σ (w, σ') := h
                                                                                                                                                    replace h := ei_p h rfl rfl rfl rfl
                                                                                                                                                    obtain ⟨f, g, h⟩ := h
                                                                                                                                                    clear g
                                                                                                                                                    replace h : EV F f 177 z177 95 [some (rf 11 (0)), some (rf 14 (6)), some (.inr (.inl (n82))), none, some (.inl (Int32.ofInt 1)), some (.inl (Int32.ofInt 3)), some (.inr (.inl (((n198) + (v201)) + (v206)))), none, some (.inl (Int32.ofInt 5))] [] σ (w, σ') := h
                                                                                                                                                    replace h := ei_p h rfl rfl rfl rfl
                                                                                                                                                    obtain ⟨f, g, h⟩ := h
                                                                                                                                                    clear g
                                                                                                                                                    replace h : EV F f 177 z177 97 [some (rf 11 (0)), some (rf 14 (6)), some (.inr (.inl (n82))), none, some (.inl (Int32.ofInt 1)), some (.inl (Int32.ofInt 3)), some (.inr (.inl (((n198) + (v201)) + (v206)))), none, some (.inl (Int32.ofInt 5))] [.inl (Int32.ofInt 3)] σ (w, σ') := h
                                                                                                                                                    replace h := ei_p h rfl rfl rfl rfl
                                                                                                                                                    obtain ⟨f, g, h⟩ := h
                                                                                                                                                    clear g
                                                                                                                                                    replace h : EV F f 177 z177 98 [some (rf 11 (0)), some (rf 14 (6)), some (.inr (.inl (n82))), none, some (.inl (Int32.ofInt 1)), some (.inl (Int32.ofInt 3)), some (.inr (.inl (((n198) + (v201)) + (v206)))), none, some (.inl (Int32.ofInt 5))] [.inl (Int32.ofInt 3), .inl (Int32.ofInt 3)] σ (w, σ') := h
                                                                                                                                                    replace h := ei_c h rfl rfl rfl
                                                                                                                                                    rcases h with ⟨hp213, f, g, h⟩ | ⟨hp213, f, g, h⟩
                                                                                                                                                    · skip
                                                                                                                                                      clear g
                                                                                                                                                      replace h : EV F f 177 z177 163 [some (rf 11 (0)), some (rf 14 (6)), some (.inr (.inl (n82))), none, some (.inl (Int32.ofInt 1)), some (.inl (Int32.ofInt 3)), some (.inr (.inl (((n198) + (v201)) + (v206)))), none, some (.inl (Int32.ofInt 5))] [] σ (w, σ') := h
                                                                                                                                                      replace h := ei_p h rfl rfl rfl rfl
                                                                                                                                                      obtain ⟨f, g, h⟩ := h
                                                                                                                                                      clear g
                                                                                                                                                      replace h : EV F f 177 z177 165 [some (rf 11 (0)), some (rf 14 (6)), some (.inr (.inl (n82))), none, some (.inl (Int32.ofInt 1)), some (.inl (Int32.ofInt 3)), some (.inr (.inl (((n198) + (v201)) + (v206)))), none, some (.inl (Int32.ofInt 5))] [.inl (Int32.ofInt 1)] σ (w, σ') := h
                                                                                                                                                      have e := ei_iret h rfl
                                                                                                                                                      cases e
                                                                                                                                                      exact ⟨rfl, rfl⟩
                                                                                                                                                    · exact absurd (ic_ge.mpr (by decide)) hp213
                                                                                                                                                · exact absurd (ic_ge.mpr (by decide)) hp210
                                                                                                                                              · skip
                                                                                                                                                have er208 := ro2_run rfl r208
                                                                                                                                                rw [er208] at e r208
                                                                                                                                                have p209 := x144 hs.1 r208
                                                                                                                                                cases e
                                                                                                                                                exact Or.inr ⟨b, p209, rfl, rfl⟩
                                                                                                                                          · skip
                                                                                                                                            have er203 := ro2_run rfl r203
                                                                                                                                            rw [er203] at e r203
                                                                                                                                            have p204 := x144 hs.1 r203
                                                                                                                                            cases e
                                                                                                                                            exact Or.inr ⟨b, p204, rfl, rfl⟩
                                                                                                                                      · skip
                                                                                                                                        have er196 := ro2_run rfl r196
                                                                                                                                        rw [er196] at e r196
                                                                                                                                        have p197 := x144 hs.1 r196
                                                                                                                                        cases e
                                                                                                                                        exact Or.inr ⟨b, p197, rfl, rfl⟩
                                                                                                                                  · skip
                                                                                                                                    have er191 := ro2_run rfl r191
                                                                                                                                    rw [er191] at e r191
                                                                                                                                    have p192 := x144 hs.1 r191
                                                                                                                                    cases e
                                                                                                                                    exact Or.inr ⟨b, p192, rfl, rfl⟩
                                                                                                                              · skip
                                                                                                                                have er186 := ro2_run rfl r186
                                                                                                                                rw [er186] at e r186
                                                                                                                                have p187 := x144 hs.1 r186
                                                                                                                                cases e
                                                                                                                                exact Or.inr ⟨b, p187, rfl, rfl⟩
                                                                                                                          · skip
                                                                                                                            have er181 := ro2_run rfl r181
                                                                                                                            rw [er181] at e r181
                                                                                                                            have p182 := x144 hs.1 r181
                                                                                                                            cases e
                                                                                                                            exact Or.inr ⟨b, p182, rfl, rfl⟩
                                                                                                                  · exact absurd (ic_ge.mpr (by decide)) hp173
                                                                                                                · skip
                                                                                                                  have er171 := ro2_run rfl r171
                                                                                                                  rw [er171] at e r171
                                                                                                                  have p172 := x144 hs.1 r171
                                                                                                                  cases e
                                                                                                                  exact Or.inr ⟨b, p172, rfl, rfl⟩
                                                                                                            · skip
                                                                                                              have er166 := ro2_run rfl r166
                                                                                                              rw [er166] at e r166
                                                                                                              have p167 := x144 hs.1 r166
                                                                                                              cases e
                                                                                                              exact Or.inr ⟨b, p167, rfl, rfl⟩
                                                                                                        · skip
                                                                                                          have er159 := ro2_run rfl r159
                                                                                                          rw [er159] at e r159
                                                                                                          have p160 := x144 hs.1 r159
                                                                                                          cases e
                                                                                                          exact Or.inr ⟨b, p160, rfl, rfl⟩
                                                                                                    · skip
                                                                                                      have er154 := ro2_run rfl r154
                                                                                                      rw [er154] at e r154
                                                                                                      have p155 := x144 hs.1 r154
                                                                                                      cases e
                                                                                                      exact Or.inr ⟨b, p155, rfl, rfl⟩
                                                                                                · skip
                                                                                                  have er149 := ro2_run rfl r149
                                                                                                  rw [er149] at e r149
                                                                                                  have p150 := x144 hs.1 r149
                                                                                                  cases e
                                                                                                  exact Or.inr ⟨b, p150, rfl, rfl⟩
                                                                                            · skip
                                                                                              have er144 := ro2_run rfl r144
                                                                                              rw [er144] at e r144
                                                                                              have p145 := x144 hs.1 r144
                                                                                              cases e
                                                                                              exact Or.inr ⟨b, p145, rfl, rfl⟩
                                                                                    · exact absurd (ic_ge.mpr (by decide)) hp136
                                                                                  · skip
                                                                                    have er134 := ro2_run rfl r134
                                                                                    rw [er134] at e r134
                                                                                    have p135 := x144 hs.1 r134
                                                                                    cases e
                                                                                    exact Or.inr ⟨b, p135, rfl, rfl⟩
                                                                              · skip
                                                                                have er129 := ro2_run rfl r129
                                                                                rw [er129] at e r129
                                                                                have p130 := x144 hs.1 r129
                                                                                cases e
                                                                                exact Or.inr ⟨b, p130, rfl, rfl⟩
                                                                          · skip
                                                                            have er122 := ro2_run rfl r122
                                                                            rw [er122] at e r122
                                                                            have p123 := x144 hs.1 r122
                                                                            cases e
                                                                            exact Or.inr ⟨b, p123, rfl, rfl⟩
                                                                      · skip
                                                                        have er117 := ro2_run rfl r117
                                                                        rw [er117] at e r117
                                                                        have p118 := x144 hs.1 r117
                                                                        cases e
                                                                        exact Or.inr ⟨b, p118, rfl, rfl⟩
                                                                  · skip
                                                                    have er112 := ro2_run rfl r112
                                                                    rw [er112] at e r112
                                                                    have p113 := x144 hs.1 r112
                                                                    cases e
                                                                    exact Or.inr ⟨b, p113, rfl, rfl⟩
                                                              · skip
                                                                have er107 := ro2_run rfl r107
                                                                rw [er107] at e r107
                                                                have p108 := x144 hs.1 r107
                                                                cases e
                                                                exact Or.inr ⟨b, p108, rfl, rfl⟩
                                                      · skip
                                                        have er98 := ro2_run rfl r98
                                                        rw [er98] at e r98
                                                        have p99 := x145 hs.1 r98
                                                        cases e
                                                        exact Or.inr ⟨b, p99, rfl, rfl⟩
                                                  · skip
                                                    have er91 := ro2_run rfl r91
                                                    rw [er91] at e r91
                                                    have p92 := x145 hs.1 r91
                                                    cases e
                                                    exact Or.inr ⟨b, p92, rfl, rfl⟩
                                              · exact absurd (ic_ge.mpr (by decide)) hp84
                                            · skip
                                              have er80 := ro2_run rfl r80
                                              rw [er80] at e r80
                                              have p81 := x145 hs.1 r80
                                              cases e
                                              exact Or.inr ⟨b, p81, rfl, rfl⟩
                                          · skip
                                            have er76 := ro2_run rfl r76
                                            rw [er76] at e r76
                                            have p77 := x145 hs.1 r76
                                            cases e
                                            exact Or.inr ⟨b, p77, rfl, rfl⟩
                                        · skip
                                          have er72 := ro2_run rfl r72
                                          rw [er72] at e r72
                                          have p73 := x145 hs.1 r72
                                          cases e
                                          exact Or.inr ⟨b, p73, rfl, rfl⟩
                                    · skip
                                      have er65 := ro2_run rfl r65
                                      rw [er65] at e r65
                                      have p66 := x145 hs.1 r65
                                      cases e
                                      exact Or.inr ⟨b, p66, rfl, rfl⟩
                                  · skip
                                    have er61 := ro2_run rfl r61
                                    rw [er61] at e r61
                                    have p62 := x145 hs.1 r61
                                    cases e
                                    exact Or.inr ⟨b, p62, rfl, rfl⟩
                                · skip
                                  have er57 := ro2_run rfl r57
                                  rw [er57] at e r57
                                  have p58 := x145 hs.1 r57
                                  cases e
                                  exact Or.inr ⟨b, p58, rfl, rfl⟩
                            · skip
                              have er50 := ro2_run rfl r50
                              rw [er50] at e r50
                              have p51 := x145 hs.1 r50
                              cases e
                              exact Or.inr ⟨b, p51, rfl, rfl⟩
                          · skip
                            have er46 := ro2_run rfl r46
                            rw [er46] at e r46
                            have p47 := x145 hs.1 r46
                            cases e
                            exact Or.inr ⟨b, p47, rfl, rfl⟩
                        · skip
                          have er42 := ro2_run rfl r42
                          rw [er42] at e r42
                          have p43 := x145 hs.1 r42
                          cases e
                          exact Or.inr ⟨b, p43, rfl, rfl⟩
                    · skip
                      have er35 := ro2_run rfl r35
                      rw [er35] at e r35
                      have p36 := x145 hs.1 r35
                      cases e
                      exact Or.inr ⟨b, p36, rfl, rfl⟩
                  · skip
                    have er31 := ro2_run rfl r31
                    rw [er31] at e r31
                    have p32 := x145 hs.1 r31
                    cases e
                    exact Or.inr ⟨b, p32, rfl, rfl⟩
                · skip
                  have er27 := ro2_run rfl r27
                  rw [er27] at e r27
                  have p28 := x145 hs.1 r27
                  cases e
                  exact Or.inr ⟨b, p28, rfl, rfl⟩
            · skip
              have er20 := ro2_run rfl r20
              rw [er20] at e r20
              have p21 := x145 hs.1 r20
              cases e
              exact Or.inr ⟨b, p21, rfl, rfl⟩
          · skip
            have er16 := ro2_run rfl r16
            rw [er16] at e r16
            have p17 := x145 hs.1 r16
            cases e
            exact Or.inr ⟨b, p17, rfl, rfl⟩
        · skip
          have er12 := ro2_run rfl r12
          rw [er12] at e r12
          have p13 := x145 hs.1 r12
          cases e
          exact Or.inr ⟨b, p13, rfl, rfl⟩
    · skip
      have er7 := ro2_run rfl r7
      rw [er7] at e r7
      have p8 := x145 hs.1 r7
      cases e
      exact Or.inr ⟨b, p8, rfl, rfl⟩
  · skip
    have er3 := ro2_run rfl r3
    rw [er3] at e r3
    have p4 := x145 hs.1 r3
    cases e
    exact Or.inr ⟨b, p4, rfl, rfl⟩
