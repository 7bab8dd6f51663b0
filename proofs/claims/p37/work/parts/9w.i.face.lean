/-! the face: a call is made, done, kept, told -/
def wn : Nat → Nat → Bool := fun c _ => !(Nat.beq c 1)
theorem HI_fw {w : Nat → Nat → Bool} {n : Int} {N : Nat} {σ σ' : mS} (h : HI n N σ) (hs : HS σ') (F : fw_e w σ σ') (c : (((List.range 13).all (fun k => fwh w 7 k) && (fwh w 8 6 && (fwh w 0 1 && fwh w 6 9))) && ((((CL.all (fun q => fwh w q.1 q.2)) && fwh w 6 7)) && (fwh w 8 7 && fwh w 2 6))) = true) : HI n N σ' := by
  obtain ⟨c1, c'⟩ := Bool.and_eq_true_iff.mp c
  obtain ⟨c2, c''⟩ := Bool.and_eq_true_iff.mp c'
  obtain ⟨c3, c4⟩ := Bool.and_eq_true_iff.mp c''
  have s : sO σ σ' := sO_of F c1
  obtain ⟨_, hn, ho, C, hm, h6⟩ := h
  have e : nF σ' = nF σ := nF_of (fun i => s.2.2.2.2 i)
  refine ⟨hs, s.hN hn, hO_s ho s, by rw [e]; exact CI_fw F C c2, fun i hi => ?_, by rw [(F.2 2 0 6 c4).1]; exact h6⟩
  show (m_i σ' 8 i 7).toInt = 0
  rw [(F.2 8 i 7 c3).1]; exact hm i hi
theorem wn_nu {σ : mS} : fw_e wn σ (m_nu σ 1 0) := by
  refine ⟨fun c i h => m_nu_len σ (fun z => by omega), fun c i k h => m_nu_i (fun e => ?_)⟩
  subst e
  unfold fwh at h
  rw [if_pos (by decide)] at h
  cases h
theorem wn_set {σ : mS} {i k : Nat} {v : mV} : fw_e wn σ (m_set σ 1 i k v) := fw_set (by unfold fwh; rw [if_pos (by decide)]; rfl)
/-- a call's record -/
theorem mk {n : Int} {N c : Nat} {k : Kt} {a b1 b2 b3 : Int32} {σ σ8 : mS} (h : HI n N σ) (hf : FY σ c k) (p : P18 (m_nu σ 1 0) (σ.1 1) a b1 b2 b3 σ8) : HI n N σ8 ∧ FY σ8 c k ∧ fw_e wn σ σ8 ∧ m_i σ8 1 (σ.1 1) 0 = a ∧ m_i σ8 1 (σ.1 1) 1 = b1 ∧ m_i σ8 1 (σ.1 1) 2 = b2 ∧ m_i σ8 1 (σ.1 1) 3 = b3 := by
  obtain ⟨s2, e2, s5, e5, s8, e8, s11, e11, rfl⟩ := p
  have F : fw_e wn σ σ8 := by
    rw [e11, e8, e5, e2]
    exact (((wn_nu.tr wn_set).tr wn_set).tr wn_set).tr wn_set
  have hs : HS σ8 := by
    rw [e11, e8, e5, e2]
    exact HS_set (HS_set (HS_set (HS_set (HS_nu h.1 (by decide)) rfl) rfl) rfl) rfl
  refine ⟨HI_fw h hs F rfl, FY_fw hf F rfl, F, ?_, ?_, ?_, ?_⟩
  · rw [e11, mi_si, if_neg (fun z => by cases z.2.2), e8, mi_si, if_neg (fun z => by cases z.2.2), e5, mi_si, if_neg (fun z => by cases z.2.2), e2, mi_si, if_pos ⟨rfl, rfl, rfl⟩]
  · rw [e11, mi_si, if_neg (fun z => by cases z.2.2), e8, mi_si, if_neg (fun z => by cases z.2.2), e5, mi_si, if_pos ⟨rfl, rfl, rfl⟩]
  · rw [e11, mi_si, if_neg (fun z => by cases z.2.2), e8, mi_si, if_pos ⟨rfl, rfl, rfl⟩]
  · rw [e11, mi_si, if_pos ⟨rfl, rfl, rfl⟩]
/-- behind a call that was done it is kept and told -/
theorem p158 {n : Int} {N i c : Nat} {k : Kt} {x2 w : Int64} {σ σ' : mS} (h : HI n N σ) (hf : FY σ c k) (hc : c ≤ 900000) (F : fw_e w158 σ σ') (p : P158 σ (some (1, i)) x2 w σ') : w = x2 ∧ HI n N σ' ∧ (((m_i σ 1 i 0).toInt = 2 ∧ x2.toInt = -1 ∧ σ' = σ) ∨ ∃ c', FO σ' c' c c k ∧ c ≤ c' ∧ c' ≤ c + 240) := by
  obtain ⟨i1, e1, hh⟩ := p
  cases e1
  have e1 : (Int64.ofInt (-1)).toInt = -1 := by decide
  have tell : (∃ σ6, fw_e w159 σ σ6 ∧ P159 σ (some (1, i)) σ6 ∧ ∃ σ10, fw_e w53 σ6 σ10 ∧ P53 σ6 (some (0, 0)) σ10 ∧ w = x2 ∧ σ' = σ10) → w = x2 ∧ HI n N σ' ∧ (((m_i σ 1 i 0).toInt = 2 ∧ x2.toInt = -1 ∧ σ' = σ) ∨ ∃ c', FO σ' c' c c k ∧ c ≤ c' ∧ c' ≤ c + 240) := by
    rintro ⟨σ6, F6, _, σ10, F10, p10, rfl, rfl⟩
    have hs6 := HS_w h.1 F6 (by decide)
    have h6 := HI_fw h hs6 F6 rfl
    have f6 := FY_fw hf F6 rfl
    obtain ⟨c', g1, g2, g3⟩ := FY_tell hs6 h6.2.1 h6.2.2.1 (lB_of h6.2.2.1 h6.2.2.2.1.2.2.1) f6 hc F10 p10
    exact ⟨rfl, HI_fw h6 (HS_w hs6 F10 (by decide)) F10 rfl, Or.inr ⟨c', g1, g2, g3⟩⟩
  rcases hh with ⟨_, hh⟩ | ⟨z, ⟨_, hh⟩ | ⟨y, rfl, rfl⟩⟩
  · exact tell hh
  · exact tell hh
  · exact ⟨rfl, h, Or.inl ⟨Decidable.of_not_not z, by rw [e1] at y; exact Decidable.of_not_not y, rfl⟩⟩
