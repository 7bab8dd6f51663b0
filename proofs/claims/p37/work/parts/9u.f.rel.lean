/-! the class's methods as relations: 46 settleFailed, 44 letFail, 45 sellOut, 51 keyOf, 52 readerAt, 85 collect, 86 nextDifference, 78 quantityAt, 54 addMessage, 53 tell, 55 readNext, 56 loseNext, 57 copyAll, 113 isTooFar, 68 takeAway, 67 tradeWith -/
def z46 : mAl := ((yX2_settleFailed, cX2_settleFailed, 14, (some .long), { frames := 3, cells := 0, slots := 0, locals := 82 }, []), rw_X2_settleFailed, false)
theorem z46_at : m_alF[46]? = some z46 := rfl
abbrev L46 : List (Nat × Nat) := [(2, 9), (6, 2), (6, 3), (6, 4), (6, 10)]
abbrev w46 : Nat → Nat → Bool := wl L46
def S46 : List Nat := [46, 47, 48]
theorem W46 : fw_S w46 S46 = true := by decide +kernel
def P46 (σ : mS) (w : Int64) (σ' : mS) : Prop := ((m_r σ 2 (0) 9 = none ∧ w = (Int64.ofNat 0) ∧ σ' = σ) ∨ (∃ q2, m_r σ 2 (0) 9 = some q2 ∧ ∃ σ6, σ6 = m_set σ 2 (0) (9) (.inr (.inr none)) ∧ ∃ i8, (some q2 : mR) = some (6, i8) ∧ ∃ σ11, σ11 = m_set σ6 6 (i8) (10) (.inl (Int32.ofInt 1)) ∧ ∃ σ14, σ14 = m_set σ11 6 (i8) (2) (.inr (.inl ((m_l σ11 6 (i8) 2) + (m_l σ11 6 (i8) 3)))) ∧ ∃ σ17, σ17 = m_set σ14 6 (i8) (3) (.inr (.inl (Int64.ofNat 0))) ∧ ∃ n19, n19 = lmax (Int64.ofNat 0) (-(m_l σ17 6 (i8) 2)) ∧ ∃ n21, n21 = (n19) + (lmax (Int64.ofNat 0) (m_l σ17 2 (0) 10)) ∧ ∃ n23, n23 = lmax (Int64.ofNat 0) (lmin (n21) (m_l σ17 6 (i8) 2)) ∧ ∃ σ26, σ26 = m_set σ17 6 (i8) (2) (.inr (.inl ((m_l σ17 6 (i8) 2) - (n23)))) ∧ ∃ v28 σ29, fw_e w47 σ26 σ29 ∧ P47 σ26 (some (6, i8)) ((n21) - (n23)) v28 σ29 ∧ ∃ v32 σ33, fw_e w47 σ29 σ33 ∧ P47 σ29 (some (6, 0)) (((n21) - (n23)) - (v28)) v32 σ33 ∧ ∃ n36, n36 = (((n21) - (n23)) - (v28)) - (v32) ∧ ∃ v38 σ39, fw_e w48 σ33 σ39 ∧ P48 σ33 (some (6, i8)) (n36) v38 σ39 ∧ ∃ n42, n42 = lmin (n19) ((n21) - ((n36) - (v38))) ∧ ∃ σ45, σ45 = m_set σ39 6 (i8) (2) (.inr (.inl ((m_l σ39 6 (i8) 2) + (n42)))) ∧ ∃ σ48, σ48 = m_set σ45 6 (0) (2) (.inr (.inl ((m_l σ45 6 (0) 2) + (((n21) - ((n36) - (v38))) - (n42))))) ∧ ∃ σ51, σ51 = m_set σ48 6 (0) (3) (.inr (.inl ((m_l σ48 6 (0) 3) + ((n36) - (v38))))) ∧ w = ((n36) - (v38)) ∧ σ' = σ51))
theorem x46 {σ σ' : mS} {w : Int64} (hs : HS σ) (h : ev_run sm_all 46 [rf 2 (0)] σ (.inl (some (.inr (.inl w)))) σ') : P46 σ w σ' := by
  unfold P46
  obtain ⟨F, f, h⟩ := ei_go h z46_at
  replace h : EV F f 46 z46 0 [some (rf 2 (0)), none, none, none, none, none, none, none, none, none, none, none, none, none] [] σ (.inl (some (.inr (.inl w))), σ') := h
  replace h := ei_p h rfl rfl rfl rfl
  obtain ⟨f, g, h⟩ := h
  clear g
  replace h : EV F f 46 z46 1 [some (rf 2 (0)), none, none, none, none, none, none, none, none, none, none, none, none, none] [rf 2 (0)] σ (.inl (some (.inr (.inl w))), σ') := h
  replace h := ei_get h rfl rfl
  obtain ⟨f, g, h⟩ := h
  clear g
  replace h : EV F f 46 z46 4 [some (rf 2 (0)), none, none, none, none, none, none, none, none, none, none, none, none, none] [.inr (.inr (m_r σ 2 (0) 9))] σ (.inl (some (.inr (.inl w))), σ') := h
  replace h := ei_p h rfl rfl rfl rfl
  obtain ⟨f, g, h⟩ := h
  clear g
  replace h : EV F f 46 z46 5 [some (rf 2 (0)), some (.inr (.inr (m_r σ 2 (0) 9))), none, none, none, none, none, none, none, none, none, none, none, none] [] σ (.inl (some (.inr (.inl w))), σ') := h
  replace h := ei_p h rfl rfl rfl rfl
  obtain ⟨f, g, h⟩ := h
  clear g
  replace h : EV F f 46 z46 6 [some (rf 2 (0)), some (.inr (.inr (m_r σ 2 (0) 9))), none, none, none, none, none, none, none, none, none, none, none, none] [.inr (.inr (m_r σ 2 (0) 9))] σ (.inl (some (.inr (.inl w))), σ') := h
  rcases r_cs (m_r σ 2 (0) 9) with e1 | ⟨q2, e1⟩
  · skip
    rw [e1] at h
    refine Or.inl ⟨e1, ?_⟩
    replace h : EV F f 46 z46 6 [some (rf 2 (0)), some (.inr (.inr none)), none, none, none, none, none, none, none, none, none, none, none, none] [.inr (.inr none)] σ (.inl (some (.inr (.inl w))), σ') := h
    replace h := ei_c h rfl rfl rfl
    rcases h with ⟨hp3, f, g, h⟩ | ⟨hp3, f, g, h⟩
    · exact absurd rfl hp3
    · skip
      clear g
      replace h : EV F f 46 z46 9 [some (rf 2 (0)), some (.inr (.inr none)), none, none, none, none, none, none, none, none, none, none, none, none] [] σ (.inl (some (.inr (.inl w))), σ') := h
      replace h := ei_p h rfl rfl rfl rfl
      obtain ⟨f, g, h⟩ := h
      clear g
      replace h : EV F f 46 z46 10 [some (rf 2 (0)), some (.inr (.inr none)), none, none, none, none, none, none, none, none, none, none, none, none] [.inr (.inl (Int64.ofNat 0))] σ (.inl (some (.inr (.inl w))), σ') := h
      have e := ei_lret h rfl
      cases e
      exact ⟨rfl, rfl⟩
  · skip
    rw [e1] at h
    refine Or.inr ⟨q2, e1, ?_⟩
    replace h : EV F f 46 z46 6 [some (rf 2 (0)), some (.inr (.inr (some q2))), none, none, none, none, none, none, none, none, none, none, none, none] [.inr (.inr (some q2))] σ (.inl (some (.inr (.inl w))), σ') := h
    replace h := ei_c h rfl rfl rfl
    rcases h with ⟨hp4, f, g, h⟩ | ⟨hp4, f, g, h⟩
    · skip
      clear g
      replace h : EV F f 46 z46 11 [some (rf 2 (0)), some (.inr (.inr (some q2))), none, none, none, none, none, none, none, none, none, none, none, none] [] σ (.inl (some (.inr (.inl w))), σ') := h
      replace h := ei_p h rfl rfl rfl rfl
      obtain ⟨f, g, h⟩ := h
      clear g
      replace h : EV F f 46 z46 12 [some (rf 2 (0)), some (.inr (.inr (some q2))), none, none, none, none, none, none, none, none, none, none, none, none] [rf 2 (0)] σ (.inl (some (.inr (.inl w))), σ') := h
      replace h := ei_p h rfl rfl rfl rfl
      obtain ⟨f, g, h⟩ := h
      clear g
      replace h : EV F f 46 z46 13 [some (rf 2 (0)), some (.inr (.inr (some q2))), none, none, none, none, none, none, none, none, none, none, none, none] [.inr (.inr none), rf 2 (0)] σ (.inl (some (.inr (.inl w))), σ') := h
      replace h := ei_put h rfl
      obtain ⟨ht5, f, g, h⟩ := h
      clear g
      obtain ⟨σ6, e7⟩ : ∃ s, s = m_set σ 2 (0) (9) (.inr (.inr none)) := ⟨_, rfl⟩
      rw [← e7] at h
      have hsσ6 : HS σ6 := by rw [e7]; exact HS_set hs rfl
      refine ⟨σ6, e7, ?_⟩
      replace h : EV F f 46 z46 16 [some (rf 2 (0)), some (.inr (.inr (some q2))), none, none, none, none, none, none, none, none, none, none, none, none] [] σ6 (.inl (some (.inr (.inl w))), σ') := h
      replace h := ei_p h rfl rfl rfl rfl
      obtain ⟨f, g, h⟩ := h
      clear g
      replace h : EV F f 46 z46 17 [some (rf 2 (0)), some (.inr (.inr (some q2))), none, none, none, none, none, none, none, none, none, none, none, none] [.inr (.inr (some q2))] σ6 (.inl (some (.inr (.inl w))), σ') := h
      replace h := ei_p h rfl rfl rfl rfl
      obtain ⟨f, g, h⟩ := h
      clear g
      replace h : EV F f 46 z46 18 [some (rf 2 (0)), some (.inr (.inr (some q2))), none, none, none, none, none, none, none, none, none, none, none, none] [.inl (Int32.ofInt 1), .inr (.inr (some q2))] σ6 (.inl (some (.inr (.inl w))), σ') := h
      obtain ⟨i8, e9⟩ := ei_pp h rfl
      rw [Option.some.inj e9] at h
      refine ⟨i8, e9, ?_⟩
      replace h : EV F f 46 z46 18 [some (rf 2 (0)), some (rf 6 (i8)), none, none, none, none, none, none, none, none, none, none, none, none] [.inl (Int32.ofInt 1), rf 6 (i8)] σ6 (.inl (some (.inr (.inl w))), σ') := h
      replace h := ei_put h rfl
      obtain ⟨ht10, f, g, h⟩ := h
      clear g
      obtain ⟨σ11, e12⟩ : ∃ s, s = m_set σ6 6 (i8) (10) (.inl (Int32.ofInt 1)) := ⟨_, rfl⟩
      rw [← e12] at h
      have hsσ11 : HS σ11 := by rw [e12]; exact HS_set hsσ6 rfl
      refine ⟨σ11, e12, ?_⟩
      replace h : EV F f 46 z46 21 [some (rf 2 (0)), some (rf 6 (i8)), none, none, none, none, none, none, none, none, none, none, none, none] [] σ11 (.inl (some (.inr (.inl w))), σ') := h
      replace h := ei_p h rfl rfl rfl rfl
      obtain ⟨f, g, h⟩ := h
      clear g
      replace h : EV F f 46 z46 22 [some (rf 2 (0)), some (rf 6 (i8)), none, none, none, none, none, none, none, none, none, none, none, none] [rf 6 (i8)] σ11 (.inl (some (.inr (.inl w))), σ') := h
      replace h := ei_p h rfl rfl rfl rfl
      obtain ⟨f, g, h⟩ := h
      clear g
      replace h : EV F f 46 z46 23 [some (rf 2 (0)), some (rf 6 (i8)), none, none, none, none, none, none, none, none, none, none, none, none] [rf 6 (i8), rf 6 (i8)] σ11 (.inl (some (.inr (.inl w))), σ') := h
      replace h := ei_get h rfl rfl
      obtain ⟨f, g, h⟩ := h
      clear g
      replace h : EV F f 46 z46 26 [some (rf 2 (0)), some (rf 6 (i8)), none, none, none, none, none, none, none, none, none, none, none, none] [.inr (.inl (m_l σ11 6 (i8) 2)), rf 6 (i8)] σ11 (.inl (some (.inr (.inl w))), σ') := h
      replace h := ei_p h rfl rfl rfl rfl
      obtain ⟨f, g, h⟩ := h
      clear g
      replace h : EV F f 46 z46 27 [some (rf 2 (0)), some (rf 6 (i8)), none, none, none, none, none, none, none, none, none, none, none, none] [rf 6 (i8), .inr (.inl (m_l σ11 6 (i8) 2)), rf 6 (i8)] σ11 (.inl (some (.inr (.inl w))), σ') := h
      replace h := ei_get h rfl rfl
      obtain ⟨f, g, h⟩ := h
      clear g
      replace h : EV F f 46 z46 30 [some (rf 2 (0)), some (rf 6 (i8)), none, none, none, none, none, none, none, none, none, none, none, none] [.inr (.inl (m_l σ11 6 (i8) 3)), .inr (.inl (m_l σ11 6 (i8) 2)), rf 6 (i8)] σ11 (.inl (some (.inr (.inl w))), σ') := h
      replace h := ei_p h rfl rfl rfl rfl
      obtain ⟨f, g, h⟩ := h
      clear g
      replace h : EV F f 46 z46 31 [some (rf 2 (0)), some (rf 6 (i8)), none, none, none, none, none, none, none, none, none, none, none, none] [.inr (.inl ((m_l σ11 6 (i8) 2) + (m_l σ11 6 (i8) 3))), rf 6 (i8)] σ11 (.inl (some (.inr (.inl w))), σ') := h
      replace h := ei_put h rfl
      obtain ⟨ht13, f, g, h⟩ := h
      clear g
      obtain ⟨σ14, e15⟩ : ∃ s, s = m_set σ11 6 (i8) (2) (.inr (.inl ((m_l σ11 6 (i8) 2) + (m_l σ11 6 (i8) 3)))) := ⟨_, rfl⟩
      rw [← e15] at h
      have hsσ14 : HS σ14 := by rw [e15]; exact HS_set hsσ11 rfl
      refine ⟨σ14, e15, ?_⟩
      replace h : EV F f 46 z46 34 [some (rf 2 (0)), some (rf 6 (i8)), none, none, none, none, none, none, none, none, none, none, none, none] [] σ14 (.inl (some (.inr (.inl w))), σ') := h
      replace h := ei_p h rfl rfl rfl rfl
      obtain ⟨f, g, h⟩ := h
      clear g
      replace h : EV F f 46 z46 35 [some (rf 2 (0)), some (rf 6 (i8)), none, none, none, none, none, none, none, none, none, none, none, none] [rf 6 (i8)] σ14 (.inl (some (.inr (.inl w))), σ') := h
      replace h := ei_p h rfl rfl rfl rfl
      obtain ⟨f, g, h⟩ := h
      clear g
      replace h : EV F f 46 z46 36 [some (rf 2 (0)), some (rf 6 (i8)), none, none, none, none, none, none, none, none, none, none, none, none] [.inr (.inl (Int64.ofNat 0)), rf 6 (i8)] σ14 (.inl (some (.inr (.inl w))), σ') := h
      replace h := ei_put h rfl
      obtain ⟨ht16, f, g, h⟩ := h
      clear g
      obtain ⟨σ17, e18⟩ : ∃ s, s = m_set σ14 6 (i8) (3) (.inr (.inl (Int64.ofNat 0))) := ⟨_, rfl⟩
      rw [← e18] at h
      have hsσ17 : HS σ17 := by rw [e18]; exact HS_set hsσ14 rfl
      refine ⟨σ17, e18, ?_⟩
      replace h : EV F f 46 z46 39 [some (rf 2 (0)), some (rf 6 (i8)), none, none, none, none, none, none, none, none, none, none, none, none] [] σ17 (.inl (some (.inr (.inl w))), σ') := h
      replace h := ei_p h rfl rfl rfl rfl
      obtain ⟨f, g, h⟩ := h
      clear g
      replace h : EV F f 46 z46 40 [some (rf 2 (0)), some (rf 6 (i8)), none, none, none, none, none, none, none, none, none, none, none, none] [.inr (.inl (Int64.ofNat 0))] σ17 (.inl (some (.inr (.inl w))), σ') := h
      replace h := ei_p h rfl rfl rfl rfl
      obtain ⟨f, g, h⟩ := h
      clear g
      replace h : EV F f 46 z46 41 [some (rf 2 (0)), some (rf 6 (i8)), none, none, none, none, none, none, none, none, none, none, none, none] [rf 6 (i8), .inr (.inl (Int64.ofNat 0))] σ17 (.inl (some (.inr (.inl w))), σ') := h
      replace h := ei_get h rfl rfl
      obtain ⟨f, g, h⟩ := h
      clear g
      replace h : EV F f 46 z46 44 [some (rf 2 (0)), some (rf 6 (i8)), none, none, none, none, none, none, none, none, none, none, none, none] [.inr (.inl (m_l σ17 6 (i8) 2)), .inr (.inl (Int64.ofNat 0))] σ17 (.inl (some (.inr (.inl w))), σ') := h
      replace h := ei_p h rfl rfl rfl rfl
      obtain ⟨f, g, h⟩ := h
      clear g
      replace h : EV F f 46 z46 45 [some (rf 2 (0)), some (rf 6 (i8)), none, none, none, none, none, none, none, none, none, none, none, none] [.inr (.inl (-(m_l σ17 6 (i8) 2))), .inr (.inl (Int64.ofNat 0))] σ17 (.inl (some (.inr (.inl w))), σ') := h
      replace h := ei_m (st' := [.inr (.inl (lmax (Int64.ofNat 0) (-(m_l σ17 6 (i8) 2))))]) h rfl (Nat.le_of_ble_eq_true rfl) (fun w hw => (Option.some.inj (ev_if_some.mp hw).2).symm)
      obtain ⟨f, g, h⟩ := h
      clear g
      replace h : EV F f 46 z46 48 [some (rf 2 (0)), some (rf 6 (i8)), none, none, none, none, none, none, none, none, none, none, none, none] [.inr (.inl (lmax (Int64.ofNat 0) (-(m_l σ17 6 (i8) 2))))] σ17 (.inl (some (.inr (.inl w))), σ') := h
      replace h := ei_p h rfl rfl rfl rfl
      obtain ⟨f, g, h⟩ := h
      clear g
      replace h : EV F f 46 z46 49 [some (rf 2 (0)), some (rf 6 (i8)), some (.inr (.inl (lmax (Int64.ofNat 0) (-(m_l σ17 6 (i8) 2))))), none, none, none, none, none, none, none, none, none, none, none] [] σ17 (.inl (some (.inr (.inl w))), σ') := h
      obtain ⟨n19, e20⟩ : ∃ s, s = lmax (Int64.ofNat 0) (-(m_l σ17 6 (i8) 2)) := ⟨_, rfl⟩
      rw [← e20] at h
      refine ⟨n19, e20, ?_⟩
      replace h : EV F f 46 z46 49 [some (rf 2 (0)), some (rf 6 (i8)), some (.inr (.inl (n19))), none, none, none, none, none, none, none, none, none, none, none] [] σ17 (.inl (some (.inr (.inl w))), σ') := h
      replace h := ei_p h rfl rfl rfl rfl
      obtain ⟨f, g, h⟩ := h
      clear g
      replace h : EV F f 46 z46 50 [some (rf 2 (0)), some (rf 6 (i8)), some (.inr (.inl (n19))), none, none, none, none, none, none, none, none, none, none, none] [.inr (.inl (n19))] σ17 (.inl (some (.inr (.inl w))), σ') := h
      replace h := ei_p h rfl rfl rfl rfl
      obtain ⟨f, g, h⟩ := h
      clear g
      replace h : EV F f 46 z46 51 [some (rf 2 (0)), some (rf 6 (i8)), some (.inr (.inl (n19))), none, none, none, none, none, none, none, none, none, none, none] [.inr (.inl (Int64.ofNat 0)), .inr (.inl (n19))] σ17 (.inl (some (.inr (.inl w))), σ') := h
      replace h := ei_p h rfl rfl rfl rfl
      obtain ⟨f, g, h⟩ := h
      clear g
      replace h : EV F f 46 z46 52 [some (rf 2 (0)), some (rf 6 (i8)), some (.inr (.inl (n19))), none, none, none, none, none, none, none, none, none, none, none] [rf 2 (0), .inr (.inl (Int64.ofNat 0)), .inr (.inl (n19))] σ17 (.inl (some (.inr (.inl w))), σ') := h
      replace h := ei_get h rfl rfl
      obtain ⟨f, g, h⟩ := h
      clear g
      replace h : EV F f 46 z46 55 [some (rf 2 (0)), some (rf 6 (i8)), some (.inr (.inl (n19))), none, none, none, none, none, none, none, none, none, none, none] [.inr (.inl (m_l σ17 2 (0) 10)), .inr (.inl (Int64.ofNat 0)), .inr (.inl (n19))] σ17 (.inl (some (.inr (.inl w))), σ') := h
      replace h := ei_m (st' := [.inr (.inl (lmax (Int64.ofNat 0) (m_l σ17 2 (0) 10))), .inr (.inl (n19))]) h rfl (Nat.le_of_ble_eq_true rfl) (fun w hw => (Option.some.inj (ev_if_some.mp hw).2).symm)
      obtain ⟨f, g, h⟩ := h
      clear g
      replace h : EV F f 46 z46 58 [some (rf 2 (0)), some (rf 6 (i8)), some (.inr (.inl (n19))), none, none, none, none, none, none, none, none, none, none, none] [.inr (.inl (lmax (Int64.ofNat 0) (m_l σ17 2 (0) 10))), .inr (.inl (n19))] σ17 (.inl (some (.inr (.inl w))), σ') := h
      replace h := ei_p h rfl rfl rfl rfl
      obtain ⟨f, g, h⟩ := h
      clear g
      replace h : EV F f 46 z46 59 [some (rf 2 (0)), some (rf 6 (i8)), some (.inr (.inl (n19))), none, none, none, none, none, none, none, none, none, none, none] [.inr (.inl ((n19) + (lmax (Int64.ofNat 0) (m_l σ17 2 (0) 10))))] σ17 (.inl (some (.inr (.inl w))), σ') := h
      replace h := ei_p h rfl rfl rfl rfl
      obtain ⟨f, g, h⟩ := h
      clear g
      replace h : EV F f 46 z46 61 [some (rf 2 (0)), some (rf 6 (i8)), some (.inr (.inl (n19))), none, some (.inr (.inl ((n19) + (lmax (Int64.ofNat 0) (m_l σ17 2 (0) 10))))), none, none, none, none, none, none, none, none, none] [] σ17 (.inl (some (.inr (.inl w))), σ') := h
      obtain ⟨n21, e22⟩ : ∃ s, s = (n19) + (lmax (Int64.ofNat 0) (m_l σ17 2 (0) 10)) := ⟨_, rfl⟩
      rw [← e22] at h
      refine ⟨n21, e22, ?_⟩
      replace h : EV F f 46 z46 61 [some (rf 2 (0)), some (rf 6 (i8)), some (.inr (.inl (n19))), none, some (.inr (.inl (n21))), none, none, none, none, none, none, none, none, none] [] σ17 (.inl (some (.inr (.inl w))), σ') := h
      replace h := ei_p h rfl rfl rfl rfl
      obtain ⟨f, g, h⟩ := h
      clear g
      replace h : EV F f 46 z46 63 [some (rf 2 (0)), some (rf 6 (i8)), some (.inr (.inl (n19))), none, some (.inr (.inl (n21))), none, none, none, none, none, none, none, none, none] [.inr (.inl (n21))] σ17 (.inl (some (.inr (.inl w))), σ') := h
      replace h := ei_p h rfl rfl rfl rfl
      obtain ⟨f, g, h⟩ := h
      clear g
      replace h : EV F f 46 z46 65 [some (rf 2 (0)), some (rf 6 (i8)), some (.inr (.inl (n19))), none, some (.inr (.inl (n21))), none, some (.inr (.inl (n21))), none, none, none, none, none, none, none] [] σ17 (.inl (some (.inr (.inl w))), σ') := h
      replace h := ei_p h rfl rfl rfl rfl
      obtain ⟨f, g, h⟩ := h
      clear g
      replace h : EV F f 46 z46 66 [some (rf 2 (0)), some (rf 6 (i8)), some (.inr (.inl (n19))), none, some (.inr (.inl (n21))), none, some (.inr (.inl (n21))), none, none, none, none, none, none, none] [.inr (.inl (Int64.ofNat 0))] σ17 (.inl (some (.inr (.inl w))), σ') := h
      replace h := ei_p h rfl rfl rfl rfl
      obtain ⟨f, g, h⟩ := h
      clear g
      replace h : EV F f 46 z46 68 [some (rf 2 (0)), some (rf 6 (i8)), some (.inr (.inl (n19))), none, some (.inr (.inl (n21))), none, some (.inr (.inl (n21))), none, none, none, none, none, none, none] [.inr (.inl (n21)), .inr (.inl (Int64.ofNat 0))] σ17 (.inl (some (.inr (.inl w))), σ') := h
      replace h := ei_p h rfl rfl rfl rfl
      obtain ⟨f, g, h⟩ := h
      clear g
      replace h : EV F f 46 z46 69 [some (rf 2 (0)), some (rf 6 (i8)), some (.inr (.inl (n19))), none, some (.inr (.inl (n21))), none, some (.inr (.inl (n21))), none, none, none, none, none, none, none] [rf 6 (i8), .inr (.inl (n21)), .inr (.inl (Int64.ofNat 0))] σ17 (.inl (some (.inr (.inl w))), σ') := h
      replace h := ei_get h rfl rfl
      obtain ⟨f, g, h⟩ := h
      clear g
      replace h : EV F f 46 z46 72 [some (rf 2 (0)), some (rf 6 (i8)), some (.inr (.inl (n19))), none, some (.inr (.inl (n21))), none, some (.inr (.inl (n21))), none, none, none, none, none, none, none] [.inr (.inl (m_l σ17 6 (i8) 2)), .inr (.inl (n21)), .inr (.inl (Int64.ofNat 0))] σ17 (.inl (some (.inr (.inl w))), σ') := h
      replace h := ei_m (st' := [.inr (.inl (lmin (n21) (m_l σ17 6 (i8) 2))), .inr (.inl (Int64.ofNat 0))]) h rfl (Nat.le_of_ble_eq_true rfl) (fun w hw => (Option.some.inj (ev_if_some.mp hw).2).symm)
      obtain ⟨f, g, h⟩ := h
      clear g
      replace h : EV F f 46 z46 75 [some (rf 2 (0)), some (rf 6 (i8)), some (.inr (.inl (n19))), none, some (.inr (.inl (n21))), none, some (.inr (.inl (n21))), none, none, none, none, none, none, none] [.inr (.inl (lmin (n21) (m_l σ17 6 (i8) 2))), .inr (.inl (Int64.ofNat 0))] σ17 (.inl (some (.inr (.inl w))), σ') := h
      replace h := ei_m (st' := [.inr (.inl (lmax (Int64.ofNat 0) (lmin (n21) (m_l σ17 6 (i8) 2))))]) h rfl (Nat.le_of_ble_eq_true rfl) (fun w hw => (Option.some.inj (ev_if_some.mp hw).2).symm)
      obtain ⟨f, g, h⟩ := h
      clear g
      replace h : EV F f 46 z46 78 [some (rf 2 (0)), some (rf 6 (i8)), some (.inr (.inl (n19))), none, some (.inr (.inl (n21))), none, some (.inr (.inl (n21))), none, none, none, none, none, none, none] [.inr (.inl (lmax (Int64.ofNat 0) (lmin (n21) (m_l σ17 6 (i8) 2))))] σ17 (.inl (some (.inr (.inl w))), σ') := h
      replace h := ei_p h rfl rfl rfl rfl
      obtain ⟨f, g, h⟩ := h
      clear g
      replace h : EV F f 46 z46 80 [some (rf 2 (0)), some (rf 6 (i8)), some (.inr (.inl (n19))), none, some (.inr (.inl (n21))), none, some (.inr (.inl (n21))), none, some (.inr (.inl (lmax (Int64.ofNat 0) (lmin (n21) (m_l σ17 6 (i8) 2))))), none, none, none, none, none] [] σ17 (.inl (some (.inr (.inl w))), σ') := h
      obtain ⟨n23, e24⟩ : ∃ s, s = lmax (Int64.ofNat 0) (lmin (n21) (m_l σ17 6 (i8) 2)) := ⟨_, rfl⟩
      rw [← e24] at h
      refine ⟨n23, e24, ?_⟩
      replace h : EV F f 46 z46 80 [some (rf 2 (0)), some (rf 6 (i8)), some (.inr (.inl (n19))), none, some (.inr (.inl (n21))), none, some (.inr (.inl (n21))), none, some (.inr (.inl (n23))), none, none, none, none, none] [] σ17 (.inl (some (.inr (.inl w))), σ') := h
      replace h := ei_p h rfl rfl rfl rfl
      obtain ⟨f, g, h⟩ := h
      clear g
      replace h : EV F f 46 z46 81 [some (rf 2 (0)), some (rf 6 (i8)), some (.inr (.inl (n19))), none, some (.inr (.inl (n21))), none, some (.inr (.inl (n21))), none, some (.inr (.inl (n23))), none, none, none, none, none] [rf 6 (i8)] σ17 (.inl (some (.inr (.inl w))), σ') := h
      replace h := ei_p h rfl rfl rfl rfl
      obtain ⟨f, g, h⟩ := h
      clear g
      replace h : EV F f 46 z46 82 [some (rf 2 (0)), some (rf 6 (i8)), some (.inr (.inl (n19))), none, some (.inr (.inl (n21))), none, some (.inr (.inl (n21))), none, some (.inr (.inl (n23))), none, none, none, none, none] [rf 6 (i8), rf 6 (i8)] σ17 (.inl (some (.inr (.inl w))), σ') := h
      replace h := ei_get h rfl rfl
      obtain ⟨f, g, h⟩ := h
      clear g
      replace h : EV F f 46 z46 85 [some (rf 2 (0)), some (rf 6 (i8)), some (.inr (.inl (n19))), none, some (.inr (.inl (n21))), none, some (.inr (.inl (n21))), none, some (.inr (.inl (n23))), none, none, none, none, none] [.inr (.inl (m_l σ17 6 (i8) 2)), rf 6 (i8)] σ17 (.inl (some (.inr (.inl w))), σ') := h
      replace h := ei_p h rfl rfl rfl rfl
      obtain ⟨f, g, h⟩ := h
      clear g
      replace h : EV F f 46 z46 87 [some (rf 2 (0)), some (rf 6 (i8)), some (.inr (.inl (n19))), none, some (.inr (.inl (n21))), none, some (.inr (.inl (n21))), none, some (.inr (.inl (n23))), none, none, none, none, none] [.inr (.inl (n23)), .inr (.inl (m_l σ17 6 (i8) 2)), rf 6 (i8)] σ17 (.inl (some (.inr (.inl w))), σ') := h
      replace h := ei_p h rfl rfl rfl rfl
      obtain ⟨f, g, h⟩ := h
      clear g
      replace h : EV F f 46 z46 88 [some (rf 2 (0)), some (rf 6 (i8)), some (.inr (.inl (n19))), none, some (.inr (.inl (n21))), none, some (.inr (.inl (n21))), none, some (.inr (.inl (n23))), none, none, none, none, none] [.inr (.inl ((m_l σ17 6 (i8) 2) - (n23))), rf 6 (i8)] σ17 (.inl (some (.inr (.inl w))), σ') := h
      replace h := ei_put h rfl
      obtain ⟨ht25, f, g, h⟩ := h
      clear g
      obtain ⟨σ26, e27⟩ : ∃ s, s = m_set σ17 6 (i8) (2) (.inr (.inl ((m_l σ17 6 (i8) 2) - (n23)))) := ⟨_, rfl⟩
      rw [← e27] at h
      have hsσ26 : HS σ26 := by rw [e27]; exact HS_set hsσ17 rfl
      refine ⟨σ26, e27, ?_⟩
      replace h : EV F f 46 z46 91 [some (rf 2 (0)), some (rf 6 (i8)), some (.inr (.inl (n19))), none, some (.inr (.inl (n21))), none, some (.inr (.inl (n21))), none, some (.inr (.inl (n23))), none, none, none, none, none] [] σ26 (.inl (some (.inr (.inl w))), σ') := h
      replace h := ei_p h rfl rfl rfl rfl
      obtain ⟨f, g, h⟩ := h
      clear g
      replace h : EV F f 46 z46 93 [some (rf 2 (0)), some (rf 6 (i8)), some (.inr (.inl (n19))), none, some (.inr (.inl (n21))), none, some (.inr (.inl (n21))), none, some (.inr (.inl (n23))), none, none, none, none, none] [.inr (.inl (n21))] σ26 (.inl (some (.inr (.inl w))), σ') := h
      replace h := ei_p h rfl rfl rfl rfl
      obtain ⟨f, g, h⟩ := h
      clear g
      replace h : EV F f 46 z46 95 [some (rf 2 (0)), some (rf 6 (i8)), some (.inr (.inl (n19))), none, some (.inr (.inl (n21))), none, some (.inr (.inl (n21))), none, some (.inr (.inl (n23))), none, none, none, none, none] [.inr (.inl (n23)), .inr (.inl (n21))] σ26 (.inl (some (.inr (.inl w))), σ') := h
      replace h := ei_p h rfl rfl rfl rfl
      obtain ⟨f, g, h⟩ := h
      clear g
      replace h : EV F f 46 z46 96 [some (rf 2 (0)), some (rf 6 (i8)), some (.inr (.inl (n19))), none, some (.inr (.inl (n21))), none, some (.inr (.inl (n21))), none, some (.inr (.inl (n23))), none, none, none, none, none] [.inr (.inl ((n21) - (n23)))] σ26 (.inl (some (.inr (.inl w))), σ') := h
      replace h := ei_p h rfl rfl rfl rfl
      obtain ⟨f, g, h⟩ := h
      clear g
      replace h : EV F f 46 z46 98 [some (rf 2 (0)), some (rf 6 (i8)), some (.inr (.inl (n19))), none, some (.inr (.inl (n21))), none, some (.inr (.inl ((n21) - (n23)))), none, some (.inr (.inl (n23))), none, none, none, none, none] [] σ26 (.inl (some (.inr (.inl w))), σ') := h
      replace h := ei_p h rfl rfl rfl rfl
      obtain ⟨f, g, h⟩ := h
      clear g
      replace h : EV F f 46 z46 100 [some (rf 2 (0)), some (rf 6 (i8)), some (.inr (.inl (n19))), none, some (.inr (.inl (n21))), none, some (.inr (.inl ((n21) - (n23)))), none, some (.inr (.inl (n23))), none, none, none, none, none] [.inr (.inl ((n21) - (n23)))] σ26 (.inl (some (.inr (.inl w))), σ') := h
      replace h := ei_p h rfl rfl rfl rfl
      obtain ⟨f, g, h⟩ := h
      clear g
      replace h : EV F f 46 z46 101 [some (rf 2 (0)), some (rf 6 (i8)), some (.inr (.inl (n19))), none, some (.inr (.inl (n21))), none, some (.inr (.inl ((n21) - (n23)))), none, some (.inr (.inl (n23))), none, none, none, none, none] [rf 2 (0), .inr (.inl ((n21) - (n23)))] σ26 (.inl (some (.inr (.inl w))), σ') := h
      replace h := ei_p h rfl rfl rfl rfl
      obtain ⟨f, g, h⟩ := h
      clear g
      replace h : EV F f 46 z46 102 [some (rf 2 (0)), some (rf 6 (i8)), some (.inr (.inl (n19))), none, some (.inr (.inl (n21))), none, some (.inr (.inl ((n21) - (n23)))), none, some (.inr (.inl (n23))), none, none, none, none, none] [rf 6 (i8), rf 2 (0), .inr (.inl ((n21) - (n23)))] σ26 (.inl (some (.inr (.inl w))), σ') := h
      replace h := ei_p h rfl rfl rfl rfl
      obtain ⟨f, g, h⟩ := h
      clear g
      replace h : EV F f 46 z46 104 [some (rf 2 (0)), some (rf 6 (i8)), some (.inr (.inl (n19))), none, some (.inr (.inl (n21))), none, some (.inr (.inl ((n21) - (n23)))), none, some (.inr (.inl (n23))), none, none, none, none, none] [.inr (.inl ((n21) - (n23))), rf 6 (i8), rf 2 (0), .inr (.inl ((n21) - (n23)))] σ26 (.inl (some (.inr (.inl w))), σ') := h
      replace h := bk_L (ei_v (as := [.inr (.inl ((n21) - (n23))), rf 6 (i8)]) h rfl rfl rfl) rfl z47_at rfl
      obtain ⟨v28, σ29, r30, f, g, h⟩ := h
      clear g
      have p31 := x47 hsσ26 r30
      have hsσ29 : HS σ29 := HS_run rfl r30 hsσ26
      refine ⟨v28, σ29, fw_run W47 rfl r30, p31, ?_⟩
      replace h : EV F f 46 z46 107 [some (rf 2 (0)), some (rf 6 (i8)), some (.inr (.inl (n19))), none, some (.inr (.inl (n21))), none, some (.inr (.inl ((n21) - (n23)))), none, some (.inr (.inl (n23))), none, none, none, none, none] [.inr (.inl (v28)), .inr (.inl ((n21) - (n23)))] σ29 (.inl (some (.inr (.inl w))), σ') := h
      replace h := ei_p h rfl rfl rfl rfl
      obtain ⟨f, g, h⟩ := h
      clear g
      replace h : EV F f 46 z46 108 [some (rf 2 (0)), some (rf 6 (i8)), some (.inr (.inl (n19))), none, some (.inr (.inl (n21))), none, some (.inr (.inl ((n21) - (n23)))), none, some (.inr (.inl (n23))), none, none, none, none, none] [.inr (.inl (((n21) - (n23)) - (v28)))] σ29 (.inl (some (.inr (.inl w))), σ') := h
      replace h := ei_p h rfl rfl rfl rfl
      obtain ⟨f, g, h⟩ := h
      clear g
      replace h : EV F f 46 z46 110 [some (rf 2 (0)), some (rf 6 (i8)), some (.inr (.inl (n19))), none, some (.inr (.inl (n21))), none, some (.inr (.inl (((n21) - (n23)) - (v28)))), none, some (.inr (.inl (n23))), none, none, none, none, none] [] σ29 (.inl (some (.inr (.inl w))), σ') := h
      replace h := ei_p h rfl rfl rfl rfl
      obtain ⟨f, g, h⟩ := h
      clear g
      replace h : EV F f 46 z46 112 [some (rf 2 (0)), some (rf 6 (i8)), some (.inr (.inl (n19))), none, some (.inr (.inl (n21))), none, some (.inr (.inl (((n21) - (n23)) - (v28)))), none, some (.inr (.inl (n23))), none, none, none, none, none] [.inr (.inl (((n21) - (n23)) - (v28)))] σ29 (.inl (some (.inr (.inl w))), σ') := h
      replace h := ei_p h rfl rfl rfl rfl
      obtain ⟨f, g, h⟩ := h
      clear g
      replace h : EV F f 46 z46 113 [some (rf 2 (0)), some (rf 6 (i8)), some (.inr (.inl (n19))), none, some (.inr (.inl (n21))), none, some (.inr (.inl (((n21) - (n23)) - (v28)))), none, some (.inr (.inl (n23))), none, none, none, none, none] [rf 2 (0), .inr (.inl (((n21) - (n23)) - (v28)))] σ29 (.inl (some (.inr (.inl w))), σ') := h
      replace h := ei_p h rfl rfl rfl rfl
      obtain ⟨f, g, h⟩ := h
      clear g
      replace h : EV F f 46 z46 114 [some (rf 2 (0)), some (rf 6 (i8)), some (.inr (.inl (n19))), none, some (.inr (.inl (n21))), none, some (.inr (.inl (((n21) - (n23)) - (v28)))), none, some (.inr (.inl (n23))), none, none, none, none, none] [rf 2 (0), rf 2 (0), .inr (.inl (((n21) - (n23)) - (v28)))] σ29 (.inl (some (.inr (.inl w))), σ') := h
      replace h := ei_get h rfl (HS_g2_1 hsσ29)
      obtain ⟨f, g, h⟩ := h
      clear g
      replace h : EV F f 46 z46 117 [some (rf 2 (0)), some (rf 6 (i8)), some (.inr (.inl (n19))), none, some (.inr (.inl (n21))), none, some (.inr (.inl (((n21) - (n23)) - (v28)))), none, some (.inr (.inl (n23))), none, none, none, none, none] [rf 6 (0), rf 2 (0), .inr (.inl (((n21) - (n23)) - (v28)))] σ29 (.inl (some (.inr (.inl w))), σ') := h
      replace h := ei_p h rfl rfl rfl rfl
      obtain ⟨f, g, h⟩ := h
      clear g
      replace h : EV F f 46 z46 119 [some (rf 2 (0)), some (rf 6 (i8)), some (.inr (.inl (n19))), none, some (.inr (.inl (n21))), none, some (.inr (.inl (((n21) - (n23)) - (v28)))), none, some (.inr (.inl (n23))), none, none, none, none, none] [.inr (.inl (((n21) - (n23)) - (v28))), rf 6 (0), rf 2 (0), .inr (.inl (((n21) - (n23)) - (v28)))] σ29 (.inl (some (.inr (.inl w))), σ') := h
      replace h := bk_L (ei_v (as := [.inr (.inl (((n21) - (n23)) - (v28))), rf 6 (0)]) h rfl rfl rfl) rfl z47_at rfl
      obtain ⟨v32, σ33, r34, f, g, h⟩ := h
      clear g
      have p35 := x47 hsσ29 r34
      have hsσ33 : HS σ33 := HS_run rfl r34 hsσ29
      refine ⟨v32, σ33, fw_run W47 rfl r34, p35, ?_⟩
      replace h : EV F f 46 z46 122 [some (rf 2 (0)), some (rf 6 (i8)), some (.inr (.inl (n19))), none, some (.inr (.inl (n21))), none, some (.inr (.inl (((n21) - (n23)) - (v28)))), none, some (.inr (.inl (n23))), none, none, none, none, none] [.inr (.inl (v32)), .inr (.inl (((n21) - (n23)) - (v28)))] σ33 (.inl (some (.inr (.inl w))), σ') := h
      replace h := ei_p h rfl rfl rfl rfl
      obtain ⟨f, g, h⟩ := h
      clear g
      replace h : EV F f 46 z46 123 [some (rf 2 (0)), some (rf 6 (i8)), some (.inr (.inl (n19))), none, some (.inr (.inl (n21))), none, some (.inr (.inl (((n21) - (n23)) - (v28)))), none, some (.inr (.inl (n23))), none, none, none, none, none] [.inr (.inl ((((n21) - (n23)) - (v28)) - (v32)))] σ33 (.inl (some (.inr (.inl w))), σ') := h
      replace h := ei_p h rfl rfl rfl rfl
      obtain ⟨f, g, h⟩ := h
      clear g
      replace h : EV F f 46 z46 125 [some (rf 2 (0)), some (rf 6 (i8)), some (.inr (.inl (n19))), none, some (.inr (.inl (n21))), none, some (.inr (.inl ((((n21) - (n23)) - (v28)) - (v32)))), none, some (.inr (.inl (n23))), none, none, none, none, none] [] σ33 (.inl (some (.inr (.inl w))), σ') := h
      obtain ⟨n36, e37⟩ : ∃ s, s = (((n21) - (n23)) - (v28)) - (v32) := ⟨_, rfl⟩
      rw [← e37] at h
      refine ⟨n36, e37, ?_⟩
      replace h : EV F f 46 z46 125 [some (rf 2 (0)), some (rf 6 (i8)), some (.inr (.inl (n19))), none, some (.inr (.inl (n21))), none, some (.inr (.inl (n36))), none, some (.inr (.inl (n23))), none, none, none, none, none] [] σ33 (.inl (some (.inr (.inl w))), σ') := h
      replace h := ei_p h rfl rfl rfl rfl
      obtain ⟨f, g, h⟩ := h
      clear g
      replace h : EV F f 46 z46 127 [some (rf 2 (0)), some (rf 6 (i8)), some (.inr (.inl (n19))), none, some (.inr (.inl (n21))), none, some (.inr (.inl (n36))), none, some (.inr (.inl (n23))), none, none, none, none, none] [.inr (.inl (n36))] σ33 (.inl (some (.inr (.inl w))), σ') := h
      replace h := ei_p h rfl rfl rfl rfl
      obtain ⟨f, g, h⟩ := h
      clear g
      replace h : EV F f 46 z46 128 [some (rf 2 (0)), some (rf 6 (i8)), some (.inr (.inl (n19))), none, some (.inr (.inl (n21))), none, some (.inr (.inl (n36))), none, some (.inr (.inl (n23))), none, none, none, none, none] [rf 2 (0), .inr (.inl (n36))] σ33 (.inl (some (.inr (.inl w))), σ') := h
      replace h := ei_p h rfl rfl rfl rfl
      obtain ⟨f, g, h⟩ := h
      clear g
      replace h : EV F f 46 z46 129 [some (rf 2 (0)), some (rf 6 (i8)), some (.inr (.inl (n19))), none, some (.inr (.inl (n21))), none, some (.inr (.inl (n36))), none, some (.inr (.inl (n23))), none, none, none, none, none] [rf 6 (i8), rf 2 (0), .inr (.inl (n36))] σ33 (.inl (some (.inr (.inl w))), σ') := h
      replace h := ei_p h rfl rfl rfl rfl
      obtain ⟨f, g, h⟩ := h
      clear g
      replace h : EV F f 46 z46 131 [some (rf 2 (0)), some (rf 6 (i8)), some (.inr (.inl (n19))), none, some (.inr (.inl (n21))), none, some (.inr (.inl (n36))), none, some (.inr (.inl (n23))), none, none, none, none, none] [.inr (.inl (n36)), rf 6 (i8), rf 2 (0), .inr (.inl (n36))] σ33 (.inl (some (.inr (.inl w))), σ') := h
      replace h := bk_L (ei_v (as := [.inr (.inl (n36)), rf 6 (i8)]) h rfl rfl rfl) rfl z48_at rfl
      obtain ⟨v38, σ39, r40, f, g, h⟩ := h
      clear g
      have p41 := x48 hsσ33 r40
      have hsσ39 : HS σ39 := HS_run rfl r40 hsσ33
      refine ⟨v38, σ39, fw_run W48 rfl r40, p41, ?_⟩
      replace h : EV F f 46 z46 134 [some (rf 2 (0)), some (rf 6 (i8)), some (.inr (.inl (n19))), none, some (.inr (.inl (n21))), none, some (.inr (.inl (n36))), none, some (.inr (.inl (n23))), none, none, none, none, none] [.inr (.inl (v38)), .inr (.inl (n36))] σ39 (.inl (some (.inr (.inl w))), σ') := h
      replace h := ei_p h rfl rfl rfl rfl
      obtain ⟨f, g, h⟩ := h
      clear g
      replace h : EV F f 46 z46 135 [some (rf 2 (0)), some (rf 6 (i8)), some (.inr (.inl (n19))), none, some (.inr (.inl (n21))), none, some (.inr (.inl (n36))), none, some (.inr (.inl (n23))), none, none, none, none, none] [.inr (.inl ((n36) - (v38)))] σ39 (.inl (some (.inr (.inl w))), σ') := h
      replace h := ei_p h rfl rfl rfl rfl
      obtain ⟨f, g, h⟩ := h
      clear g
      replace h : EV F f 46 z46 137 [some (rf 2 (0)), some (rf 6 (i8)), some (.inr (.inl (n19))), none, some (.inr (.inl (n21))), none, some (.inr (.inl ((n36) - (v38)))), none, some (.inr (.inl (n23))), none, none, none, none, none] [] σ39 (.inl (some (.inr (.inl w))), σ') := h
      replace h := ei_p h rfl rfl rfl rfl
      obtain ⟨f, g, h⟩ := h
      clear g
      replace h : EV F f 46 z46 139 [some (rf 2 (0)), some (rf 6 (i8)), some (.inr (.inl (n19))), none, some (.inr (.inl (n21))), none, some (.inr (.inl ((n36) - (v38)))), none, some (.inr (.inl (n23))), none, none, none, none, none] [.inr (.inl (n21))] σ39 (.inl (some (.inr (.inl w))), σ') := h
      replace h := ei_p h rfl rfl rfl rfl
      obtain ⟨f, g, h⟩ := h
      clear g
      replace h : EV F f 46 z46 141 [some (rf 2 (0)), some (rf 6 (i8)), some (.inr (.inl (n19))), none, some (.inr (.inl (n21))), none, some (.inr (.inl ((n36) - (v38)))), none, some (.inr (.inl (n23))), none, none, none, none, none] [.inr (.inl ((n36) - (v38))), .inr (.inl (n21))] σ39 (.inl (some (.inr (.inl w))), σ') := h
      replace h := ei_p h rfl rfl rfl rfl
      obtain ⟨f, g, h⟩ := h
      clear g
      replace h : EV F f 46 z46 142 [some (rf 2 (0)), some (rf 6 (i8)), some (.inr (.inl (n19))), none, some (.inr (.inl (n21))), none, some (.inr (.inl ((n36) - (v38)))), none, some (.inr (.inl (n23))), none, none, none, none, none] [.inr (.inl ((n21) - ((n36) - (v38))))] σ39 (.inl (some (.inr (.inl w))), σ') := h
      replace h := ei_p h rfl rfl rfl rfl
      obtain ⟨f, g, h⟩ := h
      clear g
      replace h : EV F f 46 z46 144 [some (rf 2 (0)), some (rf 6 (i8)), some (.inr (.inl (n19))), none, some (.inr (.inl (n21))), none, some (.inr (.inl ((n36) - (v38)))), none, some (.inr (.inl (n23))), none, some (.inr (.inl ((n21) - ((n36) - (v38))))), none, none, none] [] σ39 (.inl (some (.inr (.inl w))), σ') := h
      replace h := ei_p h rfl rfl rfl rfl
      obtain ⟨f, g, h⟩ := h
      clear g
      replace h : EV F f 46 z46 145 [some (rf 2 (0)), some (rf 6 (i8)), some (.inr (.inl (n19))), none, some (.inr (.inl (n21))), none, some (.inr (.inl ((n36) - (v38)))), none, some (.inr (.inl (n23))), none, some (.inr (.inl ((n21) - ((n36) - (v38))))), none, none, none] [.inr (.inl (n19))] σ39 (.inl (some (.inr (.inl w))), σ') := h
      replace h := ei_p h rfl rfl rfl rfl
      obtain ⟨f, g, h⟩ := h
      clear g
      replace h : EV F f 46 z46 147 [some (rf 2 (0)), some (rf 6 (i8)), some (.inr (.inl (n19))), none, some (.inr (.inl (n21))), none, some (.inr (.inl ((n36) - (v38)))), none, some (.inr (.inl (n23))), none, some (.inr (.inl ((n21) - ((n36) - (v38))))), none, none, none] [.inr (.inl ((n21) - ((n36) - (v38)))), .inr (.inl (n19))] σ39 (.inl (some (.inr (.inl w))), σ') := h
      replace h := ei_m (st' := [.inr (.inl (lmin (n19) ((n21) - ((n36) - (v38)))))]) h rfl (Nat.le_of_ble_eq_true rfl) (fun w hw => (Option.some.inj (ev_if_some.mp hw).2).symm)
      obtain ⟨f, g, h⟩ := h
      clear g
      replace h : EV F f 46 z46 150 [some (rf 2 (0)), some (rf 6 (i8)), some (.inr (.inl (n19))), none, some (.inr (.inl (n21))), none, some (.inr (.inl ((n36) - (v38)))), none, some (.inr (.inl (n23))), none, some (.inr (.inl ((n21) - ((n36) - (v38))))), none, none, none] [.inr (.inl (lmin (n19) ((n21) - ((n36) - (v38)))))] σ39 (.inl (some (.inr (.inl w))), σ') := h
      replace h := ei_p h rfl rfl rfl rfl
      obtain ⟨f, g, h⟩ := h
      clear g
      replace h : EV F f 46 z46 152 [some (rf 2 (0)), some (rf 6 (i8)), some (.inr (.inl (n19))), none, some (.inr (.inl (n21))), none, some (.inr (.inl ((n36) - (v38)))), none, some (.inr (.inl (n23))), none, some (.inr (.inl ((n21) - ((n36) - (v38))))), none, some (.inr (.inl (lmin (n19) ((n21) - ((n36) - (v38)))))), none] [] σ39 (.inl (some (.inr (.inl w))), σ') := h
      obtain ⟨n42, e43⟩ : ∃ s, s = lmin (n19) ((n21) - ((n36) - (v38))) := ⟨_, rfl⟩
      rw [← e43] at h
      refine ⟨n42, e43, ?_⟩
      replace h : EV F f 46 z46 152 [some (rf 2 (0)), some (rf 6 (i8)), some (.inr (.inl (n19))), none, some (.inr (.inl (n21))), none, some (.inr (.inl ((n36) - (v38)))), none, some (.inr (.inl (n23))), none, some (.inr (.inl ((n21) - ((n36) - (v38))))), none, some (.inr (.inl (n42))), none] [] σ39 (.inl (some (.inr (.inl w))), σ') := h
      replace h := ei_p h rfl rfl rfl rfl
      obtain ⟨f, g, h⟩ := h
      clear g
      replace h : EV F f 46 z46 153 [some (rf 2 (0)), some (rf 6 (i8)), some (.inr (.inl (n19))), none, some (.inr (.inl (n21))), none, some (.inr (.inl ((n36) - (v38)))), none, some (.inr (.inl (n23))), none, some (.inr (.inl ((n21) - ((n36) - (v38))))), none, some (.inr (.inl (n42))), none] [rf 6 (i8)] σ39 (.inl (some (.inr (.inl w))), σ') := h
      replace h := ei_p h rfl rfl rfl rfl
      obtain ⟨f, g, h⟩ := h
      clear g
      replace h : EV F f 46 z46 154 [some (rf 2 (0)), some (rf 6 (i8)), some (.inr (.inl (n19))), none, some (.inr (.inl (n21))), none, some (.inr (.inl ((n36) - (v38)))), none, some (.inr (.inl (n23))), none, some (.inr (.inl ((n21) - ((n36) - (v38))))), none, some (.inr (.inl (n42))), none] [rf 6 (i8), rf 6 (i8)] σ39 (.inl (some (.inr (.inl w))), σ') := h
      replace h := ei_get h rfl rfl
      obtain ⟨f, g, h⟩ := h
      clear g
      replace h : EV F f 46 z46 157 [some (rf 2 (0)), some (rf 6 (i8)), some (.inr (.inl (n19))), none, some (.inr (.inl (n21))), none, some (.inr (.inl ((n36) - (v38)))), none, some (.inr (.inl (n23))), none, some (.inr (.inl ((n21) - ((n36) - (v38))))), none, some (.inr (.inl (n42))), none] [.inr (.inl (m_l σ39 6 (i8) 2)), rf 6 (i8)] σ39 (.inl (some (.inr (.inl w))), σ') := h
      replace h := ei_p h rfl rfl rfl rfl
      obtain ⟨f, g, h⟩ := h
      clear g
      replace h : EV F f 46 z46 159 [some (rf 2 (0)), some (rf 6 (i8)), some (.inr (.inl (n19))), none, some (.inr (.inl (n21))), none, some (.inr (.inl ((n36) - (v38)))), none, some (.inr (.inl (n23))), none, some (.inr (.inl ((n21) - ((n36) - (v38))))), none, some (.inr (.inl (n42))), none] [.inr (.inl (n42)), .inr (.inl (m_l σ39 6 (i8) 2)), rf 6 (i8)] σ39 (.inl (some (.inr (.inl w))), σ') := h
      replace h := ei_p h rfl rfl rfl rfl
      obtain ⟨f, g, h⟩ := h
      clear g
      replace h : EV F f 46 z46 160 [some (rf 2 (0)), some (rf 6 (i8)), some (.inr (.inl (n19))), none, some (.inr (.inl (n21))), none, some (.inr (.inl ((n36) - (v38)))), none, some (.inr (.inl (n23))), none, some (.inr (.inl ((n21) - ((n36) - (v38))))), none, some (.inr (.inl (n42))), none] [.inr (.inl ((m_l σ39 6 (i8) 2) + (n42))), rf 6 (i8)] σ39 (.inl (some (.inr (.inl w))), σ') := h
      replace h := ei_put h rfl
      obtain ⟨ht44, f, g, h⟩ := h
      clear g
      obtain ⟨σ45, e46⟩ : ∃ s, s = m_set σ39 6 (i8) (2) (.inr (.inl ((m_l σ39 6 (i8) 2) + (n42)))) := ⟨_, rfl⟩
      rw [← e46] at h
      have hsσ45 : HS σ45 := by rw [e46]; exact HS_set hsσ39 rfl
      refine ⟨σ45, e46, ?_⟩
      replace h : EV F f 46 z46 163 [some (rf 2 (0)), some (rf 6 (i8)), some (.inr (.inl (n19))), none, some (.inr (.inl (n21))), none, some (.inr (.inl ((n36) - (v38)))), none, some (.inr (.inl (n23))), none, some (.inr (.inl ((n21) - ((n36) - (v38))))), none, some (.inr (.inl (n42))), none] [] σ45 (.inl (some (.inr (.inl w))), σ') := h
      replace h := ei_p h rfl rfl rfl rfl
      obtain ⟨f, g, h⟩ := h
      clear g
      replace h : EV F f 46 z46 164 [some (rf 2 (0)), some (rf 6 (i8)), some (.inr (.inl (n19))), none, some (.inr (.inl (n21))), none, some (.inr (.inl ((n36) - (v38)))), none, some (.inr (.inl (n23))), none, some (.inr (.inl ((n21) - ((n36) - (v38))))), none, some (.inr (.inl (n42))), none] [rf 2 (0)] σ45 (.inl (some (.inr (.inl w))), σ') := h
      replace h := ei_get h rfl (HS_g2_1 hsσ45)
      obtain ⟨f, g, h⟩ := h
      clear g
      replace h : EV F f 46 z46 167 [some (rf 2 (0)), some (rf 6 (i8)), some (.inr (.inl (n19))), none, some (.inr (.inl (n21))), none, some (.inr (.inl ((n36) - (v38)))), none, some (.inr (.inl (n23))), none, some (.inr (.inl ((n21) - ((n36) - (v38))))), none, some (.inr (.inl (n42))), none] [rf 6 (0)] σ45 (.inl (some (.inr (.inl w))), σ') := h
      replace h := ei_p h rfl rfl rfl rfl
      obtain ⟨f, g, h⟩ := h
      clear g
      replace h : EV F f 46 z46 168 [some (rf 2 (0)), some (rf 6 (i8)), some (.inr (.inl (n19))), none, some (.inr (.inl (n21))), none, some (.inr (.inl ((n36) - (v38)))), none, some (.inr (.inl (n23))), none, some (.inr (.inl ((n21) - ((n36) - (v38))))), none, some (.inr (.inl (n42))), none] [rf 6 (0), rf 6 (0)] σ45 (.inl (some (.inr (.inl w))), σ') := h
      replace h := ei_get h rfl rfl
      obtain ⟨f, g, h⟩ := h
      clear g
      replace h : EV F f 46 z46 171 [some (rf 2 (0)), some (rf 6 (i8)), some (.inr (.inl (n19))), none, some (.inr (.inl (n21))), none, some (.inr (.inl ((n36) - (v38)))), none, some (.inr (.inl (n23))), none, some (.inr (.inl ((n21) - ((n36) - (v38))))), none, some (.inr (.inl (n42))), none] [.inr (.inl (m_l σ45 6 (0) 2)), rf 6 (0)] σ45 (.inl (some (.inr (.inl w))), σ') := h
      replace h := ei_p h rfl rfl rfl rfl
      obtain ⟨f, g, h⟩ := h
      clear g
      replace h : EV F f 46 z46 173 [some (rf 2 (0)), some (rf 6 (i8)), some (.inr (.inl (n19))), none, some (.inr (.inl (n21))), none, some (.inr (.inl ((n36) - (v38)))), none, some (.inr (.inl (n23))), none, some (.inr (.inl ((n21) - ((n36) - (v38))))), none, some (.inr (.inl (n42))), none] [.inr (.inl ((n21) - ((n36) - (v38)))), .inr (.inl (m_l σ45 6 (0) 2)), rf 6 (0)] σ45 (.inl (some (.inr (.inl w))), σ') := h
      replace h := ei_p h rfl rfl rfl rfl
      obtain ⟨f, g, h⟩ := h
      clear g
      replace h : EV F f 46 z46 175 [some (rf 2 (0)), some (rf 6 (i8)), some (.inr (.inl (n19))), none, some (.inr (.inl (n21))), none, some (.inr (.inl ((n36) - (v38)))), none, some (.inr (.inl (n23))), none, some (.inr (.inl ((n21) - ((n36) - (v38))))), none, some (.inr (.inl (n42))), none] [.inr (.inl (n42)), .inr (.inl ((n21) - ((n36) - (v38)))), .inr (.inl (m_l σ45 6 (0) 2)), rf 6 (0)] σ45 (.inl (some (.inr (.inl w))), σ') := h
      replace h := ei_p h rfl rfl rfl rfl
      obtain ⟨f, g, h⟩ := h
      clear g
      replace h : EV F f 46 z46 176 [some (rf 2 (0)), some (rf 6 (i8)), some (.inr (.inl (n19))), none, some (.inr (.inl (n21))), none, some (.inr (.inl ((n36) - (v38)))), none, some (.inr (.inl (n23))), none, some (.inr (.inl ((n21) - ((n36) - (v38))))), none, some (.inr (.inl (n42))), none] [.inr (.inl (((n21) - ((n36) - (v38))) - (n42))), .inr (.inl (m_l σ45 6 (0) 2)), rf 6 (0)] σ45 (.inl (some (.inr (.inl w))), σ') := h
      replace h := ei_p h rfl rfl rfl rfl
      obtain ⟨f, g, h⟩ := h
      clear g
      replace h : EV F f 46 z46 177 [some (rf 2 (0)), some (rf 6 (i8)), some (.inr (.inl (n19))), none, some (.inr (.inl (n21))), none, some (.inr (.inl ((n36) - (v38)))), none, some (.inr (.inl (n23))), none, some (.inr (.inl ((n21) - ((n36) - (v38))))), none, some (.inr (.inl (n42))), none] [.inr (.inl ((m_l σ45 6 (0) 2) + (((n21) - ((n36) - (v38))) - (n42)))), rf 6 (0)] σ45 (.inl (some (.inr (.inl w))), σ') := h
      replace h := ei_put h rfl
      obtain ⟨ht47, f, g, h⟩ := h
      clear g
      obtain ⟨σ48, e49⟩ : ∃ s, s = m_set σ45 6 (0) (2) (.inr (.inl ((m_l σ45 6 (0) 2) + (((n21) - ((n36) - (v38))) - (n42))))) := ⟨_, rfl⟩
      rw [← e49] at h
      have hsσ48 : HS σ48 := by rw [e49]; exact HS_set hsσ45 rfl
      refine ⟨σ48, e49, ?_⟩
      replace h : EV F f 46 z46 180 [some (rf 2 (0)), some (rf 6 (i8)), some (.inr (.inl (n19))), none, some (.inr (.inl (n21))), none, some (.inr (.inl ((n36) - (v38)))), none, some (.inr (.inl (n23))), none, some (.inr (.inl ((n21) - ((n36) - (v38))))), none, some (.inr (.inl (n42))), none] [] σ48 (.inl (some (.inr (.inl w))), σ') := h
      replace h := ei_p h rfl rfl rfl rfl
      obtain ⟨f, g, h⟩ := h
      clear g
      replace h : EV F f 46 z46 181 [some (rf 2 (0)), some (rf 6 (i8)), some (.inr (.inl (n19))), none, some (.inr (.inl (n21))), none, some (.inr (.inl ((n36) - (v38)))), none, some (.inr (.inl (n23))), none, some (.inr (.inl ((n21) - ((n36) - (v38))))), none, some (.inr (.inl (n42))), none] [rf 2 (0)] σ48 (.inl (some (.inr (.inl w))), σ') := h
      replace h := ei_get h rfl (HS_g2_1 hsσ48)
      obtain ⟨f, g, h⟩ := h
      clear g
      replace h : EV F f 46 z46 184 [some (rf 2 (0)), some (rf 6 (i8)), some (.inr (.inl (n19))), none, some (.inr (.inl (n21))), none, some (.inr (.inl ((n36) - (v38)))), none, some (.inr (.inl (n23))), none, some (.inr (.inl ((n21) - ((n36) - (v38))))), none, some (.inr (.inl (n42))), none] [rf 6 (0)] σ48 (.inl (some (.inr (.inl w))), σ') := h
      replace h := ei_p h rfl rfl rfl rfl
      obtain ⟨f, g, h⟩ := h
      clear g
      replace h : EV F f 46 z46 185 [some (rf 2 (0)), some (rf 6 (i8)), some (.inr (.inl (n19))), none, some (.inr (.inl (n21))), none, some (.inr (.inl ((n36) - (v38)))), none, some (.inr (.inl (n23))), none, some (.inr (.inl ((n21) - ((n36) - (v38))))), none, some (.inr (.inl (n42))), none] [rf 6 (0), rf 6 (0)] σ48 (.inl (some (.inr (.inl w))), σ') := h
      replace h := ei_get h rfl rfl
      obtain ⟨f, g, h⟩ := h
      clear g
      replace h : EV F f 46 z46 188 [some (rf 2 (0)), some (rf 6 (i8)), some (.inr (.inl (n19))), none, some (.inr (.inl (n21))), none, some (.inr (.inl ((n36) - (v38)))), none, some (.inr (.inl (n23))), none, some (.inr (.inl ((n21) - ((n36) - (v38))))), none, some (.inr (.inl (n42))), none] [.inr (.inl (m_l σ48 6 (0) 3)), rf 6 (0)] σ48 (.inl (some (.inr (.inl w))), σ') := h
      replace h := ei_p h rfl rfl rfl rfl
      obtain ⟨f, g, h⟩ := h
      clear g
      replace h : EV F f 46 z46 190 [some (rf 2 (0)), some (rf 6 (i8)), some (.inr (.inl (n19))), none, some (.inr (.inl (n21))), none, some (.inr (.inl ((n36) - (v38)))), none, some (.inr (.inl (n23))), none, some (.inr (.inl ((n21) - ((n36) - (v38))))), none, some (.inr (.inl (n42))), none] [.inr (.inl ((n36) - (v38))), .inr (.inl (m_l σ48 6 (0) 3)), rf 6 (0)] σ48 (.inl (some (.inr (.inl w))), σ') := h
      replace h := ei_p h rfl rfl rfl rfl
      obtain ⟨f, g, h⟩ := h
      clear g
      replace h : EV F f 46 z46 191 [some (rf 2 (0)), some (rf 6 (i8)), some (.inr (.inl (n19))), none, some (.inr (.inl (n21))), none, some (.inr (.inl ((n36) - (v38)))), none, some (.inr (.inl (n23))), none, some (.inr (.inl ((n21) - ((n36) - (v38))))), none, some (.inr (.inl (n42))), none] [.inr (.inl ((m_l σ48 6 (0) 3) + ((n36) - (v38)))), rf 6 (0)] σ48 (.inl (some (.inr (.inl w))), σ') := h
      replace h := ei_put h rfl
      obtain ⟨ht50, f, g, h⟩ := h
      clear g
      obtain ⟨σ51, e52⟩ : ∃ s, s = m_set σ48 6 (0) (3) (.inr (.inl ((m_l σ48 6 (0) 3) + ((n36) - (v38))))) := ⟨_, rfl⟩
      rw [← e52] at h
      have hsσ51 : HS σ51 := by rw [e52]; exact HS_set hsσ48 rfl
      refine ⟨σ51, e52, ?_⟩
      replace h : EV F f 46 z46 194 [some (rf 2 (0)), some (rf 6 (i8)), some (.inr (.inl (n19))), none, some (.inr (.inl (n21))), none, some (.inr (.inl ((n36) - (v38)))), none, some (.inr (.inl (n23))), none, some (.inr (.inl ((n21) - ((n36) - (v38))))), none, some (.inr (.inl (n42))), none] [] σ51 (.inl (some (.inr (.inl w))), σ') := h
      replace h := ei_p h rfl rfl rfl rfl
      obtain ⟨f, g, h⟩ := h
      clear g
      replace h : EV F f 46 z46 196 [some (rf 2 (0)), some (rf 6 (i8)), some (.inr (.inl (n19))), none, some (.inr (.inl (n21))), none, some (.inr (.inl ((n36) - (v38)))), none, some (.inr (.inl (n23))), none, some (.inr (.inl ((n21) - ((n36) - (v38))))), none, some (.inr (.inl (n42))), none] [.inr (.inl ((n36) - (v38)))] σ51 (.inl (some (.inr (.inl w))), σ') := h
      have e := ei_lret h rfl
      cases e
      exact ⟨rfl, rfl⟩
    · exact absurd (fun z => by cases z) hp4
def z44 : mAl := ((yX2_letFail, cX2_letFail, 10, none, { frames := 4, cells := 0, slots := 0, locals := 115 }, []), rw_X2_letFail, false)
theorem z44_at : m_alF[44]? = some z44 := rfl
abbrev L44 : List (Nat × Nat) := [(2, 8), (2, 9), (2, 10), (6, 2), (6, 3), (6, 4), (6, 7), (6, 9), (6, 10), (8, 8), (14, 0)]
abbrev w44 : Nat → Nat → Bool := wl L44
def S44 : List Nat := [44, 46, 47, 48, 90, 91, 92]
theorem W44 : fw_S w44 S44 = true := by decide +kernel
abbrev B44_31 (c1 : Nat) (c2 : Int32) (ih : Int32 → mS → mS → Prop) (u4 : Int32) (τ : mS) (σ' : mS) : Prop := (((c2).toInt ≤ (u4).toInt ∧ ∃ σ3, σ3 = m_set τ 2 (0) (9) (rf 6 (c1)) ∧ ∃ σ6, σ6 = m_set σ3 2 (0) (10) (.inr (.inl (Int64.ofNat 0))) ∧ ∃ v8, P92 σ6 (0) v8 ∧ (((v8).toInt = (0 : Int) ∧ σ' = σ6) ∨ (¬ ((v8).toInt = (0 : Int)) ∧ ∃ v13 σ14, fw_e w46 σ6 σ14 ∧ P46 σ6 v13 σ14 ∧ σ' = σ14))) ∨ (¬ ((c2).toInt ≤ (u4).toInt) ∧ (0 ≤ (u4).toInt ∧ (u4).toInt < 3) ∧ ∃ v18, P90 τ (c1) (m_i τ 8 ((u4).toNatClampNeg) 0) v18 ∧ ∃ n22, n22 = (v18) * ((m_i τ 8 ((u4).toNatClampNeg) 2).toInt64) ∧ ∃ σ25, fw_e w91 τ σ25 ∧ P91 τ (c1) (m_i τ 8 ((u4).toNatClampNeg) 0) (-(v18)) (n22) σ25 ∧ ∃ σ29, fw_e w91 σ25 σ29 ∧ P91 σ25 (0) (m_i σ25 8 ((u4).toNatClampNeg) 0) (v18) (-(n22)) σ29 ∧ ∃ σ33, σ33 = m_set σ29 8 ((u4).toNatClampNeg) (8) (.inr (.inl ((m_l σ29 8 ((u4).toNatClampNeg) 8) + (n22)))) ∧ ih ((u4) + Int32.ofInt 1) σ33 σ'))
def Q44_31 (c1 : Nat) (c2 : Int32) : Nat → Int32 → mS → mS → Prop
  | 0 => fun _ _ _ => False
  | n + 1 => B44_31 c1 c2 (Q44_31 c1 c2 n)
theorem q44_31 {F : Nat} {σ' : mS} {c1 : Nat} {c2 : Int32} : ∀ N f, f < N → ∀ (u4 : Int32) (y5 : Option mV) (y6 : Option mV) (y7 : Option mV) (y8 : Option mV) (y9 : Option mV) (τ : mS), HS τ → EV F f 44 z44 31 [some (rf 2 (0)), some (rf 6 (c1)), some (rf 18 (0)), some (.inl (c2)), some (.inl (u4)), y5, y6, y7, y8, y9] [] τ (.inl none, σ') → Q44_31 c1 c2 N u4 τ σ' := by
  intro N
  induction N with
  | zero => intro f hf; omega
  | succ N IH =>
    intro f hf0 u4 y5 y6 y7 y8 y9 τ hsτ h
    have hf : f < N + 1 := hf0
    clear hf0
    show B44_31 c1 c2 (Q44_31 c1 c2 N) u4 τ σ'
    replace h := ei_p h rfl rfl rfl rfl
    obtain ⟨f, g, h⟩ := h
    replace hf := Nat.lt_of_lt_of_le g (Nat.le_of_lt_succ hf)
    clear g
    replace h : EV F f 44 z44 33 [some (rf 2 (0)), some (rf 6 (c1)), some (rf 18 (0)), some (.inl (c2)), some (.inl (u4)), y5, y6, y7, y8, y9] [.inl (u4)] τ (.inl none, σ') := h
    replace h := ei_p h rfl rfl rfl rfl
    obtain ⟨f, g, h⟩ := h
    replace hf := Nat.lt_trans g hf
    clear g
    replace h : EV F f 44 z44 34 [some (rf 2 (0)), some (rf 6 (c1)), some (rf 18 (0)), some (.inl (c2)), some (.inl (u4)), y5, y6, y7, y8, y9] [.inl (c2), .inl (u4)] τ (.inl none, σ') := h
    replace h := ei_c h rfl rfl rfl
    rcases h with ⟨hp1, f, g, h⟩ | ⟨hp1, f, g, h⟩
    · skip
      replace hp1 : (c2).toInt ≤ (u4).toInt := ic_ge.mp hp1
      refine Or.inl ⟨hp1, ?_⟩
      replace hf := Nat.lt_trans g hf
      clear g
      replace h : EV F f 44 z44 114 [some (rf 2 (0)), some (rf 6 (c1)), some (rf 18 (0)), some (.inl (c2)), some (.inl (u4)), y5, y6, y7, y8, y9] [] τ (.inl none, σ') := h
      replace h := ei_p h rfl rfl rfl rfl
      obtain ⟨f, g, h⟩ := h
      replace hf := Nat.lt_trans g hf
      clear g
      replace h : EV F f 44 z44 115 [some (rf 2 (0)), some (rf 6 (c1)), some (rf 18 (0)), some (.inl (c2)), some (.inl (u4)), y5, y6, y7, y8, y9] [rf 2 (0)] τ (.inl none, σ') := h
      replace h := ei_p h rfl rfl rfl rfl
      obtain ⟨f, g, h⟩ := h
      replace hf := Nat.lt_trans g hf
      clear g
      replace h : EV F f 44 z44 116 [some (rf 2 (0)), some (rf 6 (c1)), some (rf 18 (0)), some (.inl (c2)), some (.inl (u4)), y5, y6, y7, y8, y9] [rf 6 (c1), rf 2 (0)] τ (.inl none, σ') := h
      replace h := ei_put h rfl
      obtain ⟨ht2, f, g, h⟩ := h
      replace hf := Nat.lt_trans g hf
      clear g
      obtain ⟨σ3, e4⟩ : ∃ s, s = m_set τ 2 (0) (9) (rf 6 (c1)) := ⟨_, rfl⟩
      rw [← e4] at h
      have hsσ3 : HS σ3 := by rw [e4]; exact HS_set hsτ rfl
      refine ⟨σ3, e4, ?_⟩
      replace h : EV F f 44 z44 119 [some (rf 2 (0)), some (rf 6 (c1)), some (rf 18 (0)), some (.inl (c2)), some (.inl (u4)), y5, y6, y7, y8, y9] [] σ3 (.inl none, σ') := h
      replace h := ei_p h rfl rfl rfl rfl
      obtain ⟨f, g, h⟩ := h
      replace hf := Nat.lt_trans g hf
      clear g
      replace h : EV F f 44 z44 120 [some (rf 2 (0)), some (rf 6 (c1)), some (rf 18 (0)), some (.inl (c2)), some (.inl (u4)), y5, y6, y7, y8, y9] [rf 2 (0)] σ3 (.inl none, σ') := h
      replace h := ei_p h rfl rfl rfl rfl
      obtain ⟨f, g, h⟩ := h
      replace hf := Nat.lt_trans g hf
      clear g
      replace h : EV F f 44 z44 121 [some (rf 2 (0)), some (rf 6 (c1)), some (rf 18 (0)), some (.inl (c2)), some (.inl (u4)), y5, y6, y7, y8, y9] [.inr (.inl (Int64.ofNat 0)), rf 2 (0)] σ3 (.inl none, σ') := h
      replace h := ei_put h rfl
      obtain ⟨ht5, f, g, h⟩ := h
      replace hf := Nat.lt_trans g hf
      clear g
      obtain ⟨σ6, e7⟩ : ∃ s, s = m_set σ3 2 (0) (10) (.inr (.inl (Int64.ofNat 0))) := ⟨_, rfl⟩
      rw [← e7] at h
      have hsσ6 : HS σ6 := by rw [e7]; exact HS_set hsσ3 rfl
      refine ⟨σ6, e7, ?_⟩
      replace h : EV F f 44 z44 124 [some (rf 2 (0)), some (rf 6 (c1)), some (rf 18 (0)), some (.inl (c2)), some (.inl (u4)), y5, y6, y7, y8, y9] [] σ6 (.inl none, σ') := h
      replace h := ei_p h rfl rfl rfl rfl
      obtain ⟨f, g, h⟩ := h
      replace hf := Nat.lt_trans g hf
      clear g
      replace h : EV F f 44 z44 125 [some (rf 2 (0)), some (rf 6 (c1)), some (rf 18 (0)), some (.inl (c2)), some (.inl (u4)), y5, y6, y7, y8, y9] [rf 2 (0)] σ6 (.inl none, σ') := h
      replace h := ei_get h rfl (HS_g2_1 hsσ6)
      obtain ⟨f, g, h⟩ := h
      replace hf := Nat.lt_trans g hf
      clear g
      replace h : EV F f 44 z44 128 [some (rf 2 (0)), some (rf 6 (c1)), some (rf 18 (0)), some (.inl (c2)), some (.inl (u4)), y5, y6, y7, y8, y9] [rf 6 (0)] σ6 (.inl none, σ') := h
      replace h := bk_I (ei_v (as := []) h rfl rfl rfl) rfl z92_at (Or.inr rfl)
      obtain ⟨v8, σ9, r10, f, g, h⟩ := h
      replace hf := Nat.lt_trans g hf
      clear g
      have er10 := ro_run rfl r10
      rw [er10] at h r10
      have p11 := x92 hsσ6 r10
      refine ⟨v8, p11, ?_⟩
      replace h : EV F f 44 z44 131 [some (rf 2 (0)), some (rf 6 (c1)), some (rf 18 (0)), some (.inl (c2)), some (.inl (u4)), y5, y6, y7, y8, y9] [.inl (v8)] σ6 (.inl none, σ') := h
      replace h := ei_c h rfl rfl rfl
      rcases h with ⟨hp12, f, g, h⟩ | ⟨hp12, f, g, h⟩
      · skip
        replace hp12 : (v8).toInt = (0 : Int) := ic_eq.mp hp12
        refine Or.inl ⟨hp12, ?_⟩
        replace hf := Nat.lt_trans g hf
        clear g
        replace h : EV F f 44 z44 139 [some (rf 2 (0)), some (rf 6 (c1)), some (rf 18 (0)), some (.inl (c2)), some (.inl (u4)), y5, y6, y7, y8, y9] [] σ6 (.inl none, σ') := h
        have e := ei_ret h rfl
        cases e
        exact rfl
      · skip
        replace hp12 : ¬ ((v8).toInt = (0 : Int)) := (not_congr ic_eq).mp hp12
        refine Or.inr ⟨hp12, ?_⟩
        replace hf := Nat.lt_trans g hf
        clear g
        replace h : EV F f 44 z44 134 [some (rf 2 (0)), some (rf 6 (c1)), some (rf 18 (0)), some (.inl (c2)), some (.inl (u4)), y5, y6, y7, y8, y9] [] σ6 (.inl none, σ') := h
        replace h := ei_p h rfl rfl rfl rfl
        obtain ⟨f, g, h⟩ := h
        replace hf := Nat.lt_trans g hf
        clear g
        replace h : EV F f 44 z44 135 [some (rf 2 (0)), some (rf 6 (c1)), some (rf 18 (0)), some (.inl (c2)), some (.inl (u4)), y5, y6, y7, y8, y9] [rf 2 (0)] σ6 (.inl none, σ') := h
        replace h := bk_L (ei_v (as := []) h rfl rfl rfl) rfl z46_at rfl
        obtain ⟨v13, σ14, r15, f, g, h⟩ := h
        replace hf := Nat.lt_trans g hf
        clear g
        have p16 := x46 hsσ6 r15
        have hsσ14 : HS σ14 := HS_run rfl r15 hsσ6
        refine ⟨v13, σ14, fw_run W46 rfl r15, p16, ?_⟩
        replace h : EV F f 44 z44 138 [some (rf 2 (0)), some (rf 6 (c1)), some (rf 18 (0)), some (.inl (c2)), some (.inl (u4)), y5, y6, y7, y8, y9] [.inr (.inl (v13))] σ14 (.inl none, σ') := h
        replace h := ei_p h rfl rfl rfl rfl
        obtain ⟨f, g, h⟩ := h
        replace hf := Nat.lt_trans g hf
        clear g
        replace h : EV F f 44 z44 139 [some (rf 2 (0)), some (rf 6 (c1)), some (rf 18 (0)), some (.inl (c2)), some (.inl (u4)), y5, y6, y7, y8, y9] [] σ14 (.inl none, σ') := h
        have e := ei_ret h rfl
        cases e
        exact rfl
    · skip
      replace hp1 : ¬ ((c2).toInt ≤ (u4).toInt) := (not_congr ic_ge).mp hp1
      refine Or.inr ⟨hp1, ?_⟩
      replace hf := Nat.lt_trans g hf
      clear g
      replace h : EV F f 44 z44 37 [some (rf 2 (0)), some (rf 6 (c1)), some (rf 18 (0)), some (.inl (c2)), some (.inl (u4)), y5, y6, y7, y8, y9] [] τ (.inl none, σ') := h
      replace h := ei_p h rfl rfl rfl rfl
      obtain ⟨f, g, h⟩ := h
      replace hf := Nat.lt_trans g hf
      clear g
      replace h : EV F f 44 z44 38 [some (rf 2 (0)), some (rf 6 (c1)), some (rf 18 (0)), some (.inl (c2)), some (.inl (u4)), y5, y6, y7, y8, y9] [rf 18 (0)] τ (.inl none, σ') := h
      replace h := ei_p h rfl rfl rfl rfl
      obtain ⟨f, g, h⟩ := h
      replace hf := Nat.lt_trans g hf
      clear g
      replace h : EV F f 44 z44 40 [some (rf 2 (0)), some (rf 6 (c1)), some (rf 18 (0)), some (.inl (c2)), some (.inl (u4)), y5, y6, y7, y8, y9] [.inl (u4), rf 18 (0)] τ (.inl none, σ') := h
      replace h := ei_ald h rfl (HS_a18 hsτ)
      obtain ⟨vp17, f, g, h⟩ := h
      replace hf := Nat.lt_trans g hf
      clear g
      replace h : EV F f 44 z44 41 [some (rf 2 (0)), some (rf 6 (c1)), some (rf 18 (0)), some (.inl (c2)), some (.inl (u4)), y5, y6, y7, y8, y9] [rf 8 ((u4).toNatClampNeg)] τ (.inl none, σ') := h
      refine ⟨HS_v18 hsτ vp17, ?_⟩
      replace h := ei_p h rfl rfl rfl rfl
      obtain ⟨f, g, h⟩ := h
      replace hf := Nat.lt_trans g hf
      clear g
      replace h : EV F f 44 z44 43 [some (rf 2 (0)), some (rf 6 (c1)), some (rf 18 (0)), some (.inl (c2)), some (.inl (u4)), some (rf 8 ((u4).toNatClampNeg)), y6, y7, y8, y9] [] τ (.inl none, σ') := h
      replace h := ei_p h rfl rfl rfl rfl
      obtain ⟨f, g, h⟩ := h
      replace hf := Nat.lt_trans g hf
      clear g
      replace h : EV F f 44 z44 44 [some (rf 2 (0)), some (rf 6 (c1)), some (rf 18 (0)), some (.inl (c2)), some (.inl (u4)), some (rf 8 ((u4).toNatClampNeg)), y6, y7, y8, y9] [rf 6 (c1)] τ (.inl none, σ') := h
      replace h := ei_p h rfl rfl rfl rfl
      obtain ⟨f, g, h⟩ := h
      replace hf := Nat.lt_trans g hf
      clear g
      replace h : EV F f 44 z44 46 [some (rf 2 (0)), some (rf 6 (c1)), some (rf 18 (0)), some (.inl (c2)), some (.inl (u4)), some (rf 8 ((u4).toNatClampNeg)), y6, y7, y8, y9] [rf 8 ((u4).toNatClampNeg), rf 6 (c1)] τ (.inl none, σ') := h
      replace h := ei_get h rfl rfl
      obtain ⟨f, g, h⟩ := h
      replace hf := Nat.lt_trans g hf
      clear g
      replace h : EV F f 44 z44 49 [some (rf 2 (0)), some (rf 6 (c1)), some (rf 18 (0)), some (.inl (c2)), some (.inl (u4)), some (rf 8 ((u4).toNatClampNeg)), y6, y7, y8, y9] [.inl (m_i τ 8 ((u4).toNatClampNeg) 0), rf 6 (c1)] τ (.inl none, σ') := h
      replace h := bk_L (ei_v (as := [.inl (m_i τ 8 ((u4).toNatClampNeg) 0)]) h rfl rfl rfl) rfl z90_at rfl
      obtain ⟨v18, σ19, r20, f, g, h⟩ := h
      replace hf := Nat.lt_trans g hf
      clear g
      have er20 := ro_run rfl r20
      rw [er20] at h r20
      have p21 := x90 hsτ r20
      refine ⟨v18, p21, ?_⟩
      replace h : EV F f 44 z44 52 [some (rf 2 (0)), some (rf 6 (c1)), some (rf 18 (0)), some (.inl (c2)), some (.inl (u4)), some (rf 8 ((u4).toNatClampNeg)), y6, y7, y8, y9] [.inr (.inl (v18))] τ (.inl none, σ') := h
      replace h := ei_p h rfl rfl rfl rfl
      obtain ⟨f, g, h⟩ := h
      replace hf := Nat.lt_trans g hf
      clear g
      replace h : EV F f 44 z44 54 [some (rf 2 (0)), some (rf 6 (c1)), some (rf 18 (0)), some (.inl (c2)), some (.inl (u4)), some (rf 8 ((u4).toNatClampNeg)), some (.inr (.inl (v18))), none, y8, y9] [] τ (.inl none, σ') := h
      replace h := ei_p h rfl rfl rfl rfl
      obtain ⟨f, g, h⟩ := h
      replace hf := Nat.lt_trans g hf
      clear g
      replace h : EV F f 44 z44 56 [some (rf 2 (0)), some (rf 6 (c1)), some (rf 18 (0)), some (.inl (c2)), some (.inl (u4)), some (rf 8 ((u4).toNatClampNeg)), some (.inr (.inl (v18))), none, y8, y9] [.inr (.inl (v18))] τ (.inl none, σ') := h
      replace h := ei_p h rfl rfl rfl rfl
      obtain ⟨f, g, h⟩ := h
      replace hf := Nat.lt_trans g hf
      clear g
      replace h : EV F f 44 z44 58 [some (rf 2 (0)), some (rf 6 (c1)), some (rf 18 (0)), some (.inl (c2)), some (.inl (u4)), some (rf 8 ((u4).toNatClampNeg)), some (.inr (.inl (v18))), none, y8, y9] [rf 8 ((u4).toNatClampNeg), .inr (.inl (v18))] τ (.inl none, σ') := h
      replace h := ei_get h rfl rfl
      obtain ⟨f, g, h⟩ := h
      replace hf := Nat.lt_trans g hf
      clear g
      replace h : EV F f 44 z44 61 [some (rf 2 (0)), some (rf 6 (c1)), some (rf 18 (0)), some (.inl (c2)), some (.inl (u4)), some (rf 8 ((u4).toNatClampNeg)), some (.inr (.inl (v18))), none, y8, y9] [.inl (m_i τ 8 ((u4).toNatClampNeg) 2), .inr (.inl (v18))] τ (.inl none, σ') := h
      replace h := ei_p h rfl rfl rfl rfl
      obtain ⟨f, g, h⟩ := h
      replace hf := Nat.lt_trans g hf
      clear g
      replace h : EV F f 44 z44 62 [some (rf 2 (0)), some (rf 6 (c1)), some (rf 18 (0)), some (.inl (c2)), some (.inl (u4)), some (rf 8 ((u4).toNatClampNeg)), some (.inr (.inl (v18))), none, y8, y9] [.inr (.inl ((m_i τ 8 ((u4).toNatClampNeg) 2).toInt64)), .inr (.inl (v18))] τ (.inl none, σ') := h
      replace h := ei_p h rfl rfl rfl rfl
      obtain ⟨f, g, h⟩ := h
      replace hf := Nat.lt_trans g hf
      clear g
      replace h : EV F f 44 z44 63 [some (rf 2 (0)), some (rf 6 (c1)), some (rf 18 (0)), some (.inl (c2)), some (.inl (u4)), some (rf 8 ((u4).toNatClampNeg)), some (.inr (.inl (v18))), none, y8, y9] [.inr (.inl ((v18) * ((m_i τ 8 ((u4).toNatClampNeg) 2).toInt64)))] τ (.inl none, σ') := h
      replace h := ei_p h rfl rfl rfl rfl
      obtain ⟨f, g, h⟩ := h
      replace hf := Nat.lt_trans g hf
      clear g
      replace h : EV F f 44 z44 65 [some (rf 2 (0)), some (rf 6 (c1)), some (rf 18 (0)), some (.inl (c2)), some (.inl (u4)), some (rf 8 ((u4).toNatClampNeg)), some (.inr (.inl (v18))), none, some (.inr (.inl ((v18) * ((m_i τ 8 ((u4).toNatClampNeg) 2).toInt64)))), none] [] τ (.inl none, σ') := h
      obtain ⟨n22, e23⟩ : ∃ s, s = (v18) * ((m_i τ 8 ((u4).toNatClampNeg) 2).toInt64) := ⟨_, rfl⟩
      rw [← e23] at h
      refine ⟨n22, e23, ?_⟩
      replace h : EV F f 44 z44 65 [some (rf 2 (0)), some (rf 6 (c1)), some (rf 18 (0)), some (.inl (c2)), some (.inl (u4)), some (rf 8 ((u4).toNatClampNeg)), some (.inr (.inl (v18))), none, some (.inr (.inl (n22))), none] [] τ (.inl none, σ') := h
      replace h := ei_p h rfl rfl rfl rfl
      obtain ⟨f, g, h⟩ := h
      replace hf := Nat.lt_trans g hf
      clear g
      replace h : EV F f 44 z44 66 [some (rf 2 (0)), some (rf 6 (c1)), some (rf 18 (0)), some (.inl (c2)), some (.inl (u4)), some (rf 8 ((u4).toNatClampNeg)), some (.inr (.inl (v18))), none, some (.inr (.inl (n22))), none] [rf 6 (c1)] τ (.inl none, σ') := h
      replace h := ei_p h rfl rfl rfl rfl
      obtain ⟨f, g, h⟩ := h
      replace hf := Nat.lt_trans g hf
      clear g
      replace h : EV F f 44 z44 68 [some (rf 2 (0)), some (rf 6 (c1)), some (rf 18 (0)), some (.inl (c2)), some (.inl (u4)), some (rf 8 ((u4).toNatClampNeg)), some (.inr (.inl (v18))), none, some (.inr (.inl (n22))), none] [rf 8 ((u4).toNatClampNeg), rf 6 (c1)] τ (.inl none, σ') := h
      replace h := ei_get h rfl rfl
      obtain ⟨f, g, h⟩ := h
      replace hf := Nat.lt_trans g hf
      clear g
      replace h : EV F f 44 z44 71 [some (rf 2 (0)), some (rf 6 (c1)), some (rf 18 (0)), some (.inl (c2)), some (.inl (u4)), some (rf 8 ((u4).toNatClampNeg)), some (.inr (.inl (v18))), none, some (.inr (.inl (n22))), none] [.inl (m_i τ 8 ((u4).toNatClampNeg) 0), rf 6 (c1)] τ (.inl none, σ') := h
      replace h := ei_p h rfl rfl rfl rfl
      obtain ⟨f, g, h⟩ := h
      replace hf := Nat.lt_trans g hf
      clear g
      replace h : EV F f 44 z44 73 [some (rf 2 (0)), some (rf 6 (c1)), some (rf 18 (0)), some (.inl (c2)), some (.inl (u4)), some (rf 8 ((u4).toNatClampNeg)), some (.inr (.inl (v18))), none, some (.inr (.inl (n22))), none] [.inr (.inl (v18)), .inl (m_i τ 8 ((u4).toNatClampNeg) 0), rf 6 (c1)] τ (.inl none, σ') := h
      replace h := ei_p h rfl rfl rfl rfl
      obtain ⟨f, g, h⟩ := h
      replace hf := Nat.lt_trans g hf
      clear g
      replace h : EV F f 44 z44 74 [some (rf 2 (0)), some (rf 6 (c1)), some (rf 18 (0)), some (.inl (c2)), some (.inl (u4)), some (rf 8 ((u4).toNatClampNeg)), some (.inr (.inl (v18))), none, some (.inr (.inl (n22))), none] [.inr (.inl (-(v18))), .inl (m_i τ 8 ((u4).toNatClampNeg) 0), rf 6 (c1)] τ (.inl none, σ') := h
      replace h := ei_p h rfl rfl rfl rfl
      obtain ⟨f, g, h⟩ := h
      replace hf := Nat.lt_trans g hf
      clear g
      replace h : EV F f 44 z44 76 [some (rf 2 (0)), some (rf 6 (c1)), some (rf 18 (0)), some (.inl (c2)), some (.inl (u4)), some (rf 8 ((u4).toNatClampNeg)), some (.inr (.inl (v18))), none, some (.inr (.inl (n22))), none] [.inr (.inl (n22)), .inr (.inl (-(v18))), .inl (m_i τ 8 ((u4).toNatClampNeg) 0), rf 6 (c1)] τ (.inl none, σ') := h
      replace h := bk_0 (ei_v (as := [.inr (.inl (n22)), .inr (.inl (-(v18))), .inl (m_i τ 8 ((u4).toNatClampNeg) 0)]) h rfl rfl rfl) rfl z91_at rfl
      obtain ⟨σ25, r26, f, g, h⟩ := h
      replace hf := Nat.lt_trans g hf
      clear g
      have p27 := x91 hsτ r26
      have hsσ25 : HS σ25 := HS_run rfl r26 hsτ
      refine ⟨σ25, fw_run W91 rfl r26, p27, ?_⟩
      replace h : EV F f 44 z44 79 [some (rf 2 (0)), some (rf 6 (c1)), some (rf 18 (0)), some (.inl (c2)), some (.inl (u4)), some (rf 8 ((u4).toNatClampNeg)), some (.inr (.inl (v18))), none, some (.inr (.inl (n22))), none] [] σ25 (.inl none, σ') := h
      replace h := ei_p h rfl rfl rfl rfl
      obtain ⟨f, g, h⟩ := h
      replace hf := Nat.lt_trans g hf
      clear g
      replace h : EV F f 44 z44 80 [some (rf 2 (0)), some (rf 6 (c1)), some (rf 18 (0)), some (.inl (c2)), some (.inl (u4)), some (rf 8 ((u4).toNatClampNeg)), some (.inr (.inl (v18))), none, some (.inr (.inl (n22))), none] [rf 2 (0)] σ25 (.inl none, σ') := h
      replace h := ei_get h rfl (HS_g2_1 hsσ25)
      obtain ⟨f, g, h⟩ := h
      replace hf := Nat.lt_trans g hf
      clear g
      replace h : EV F f 44 z44 83 [some (rf 2 (0)), some (rf 6 (c1)), some (rf 18 (0)), some (.inl (c2)), some (.inl (u4)), some (rf 8 ((u4).toNatClampNeg)), some (.inr (.inl (v18))), none, some (.inr (.inl (n22))), none] [rf 6 (0)] σ25 (.inl none, σ') := h
      replace h := ei_p h rfl rfl rfl rfl
      obtain ⟨f, g, h⟩ := h
      replace hf := Nat.lt_trans g hf
      clear g
      replace h : EV F f 44 z44 85 [some (rf 2 (0)), some (rf 6 (c1)), some (rf 18 (0)), some (.inl (c2)), some (.inl (u4)), some (rf 8 ((u4).toNatClampNeg)), some (.inr (.inl (v18))), none, some (.inr (.inl (n22))), none] [rf 8 ((u4).toNatClampNeg), rf 6 (0)] σ25 (.inl none, σ') := h
      replace h := ei_get h rfl rfl
      obtain ⟨f, g, h⟩ := h
      replace hf := Nat.lt_trans g hf
      clear g
      replace h : EV F f 44 z44 88 [some (rf 2 (0)), some (rf 6 (c1)), some (rf 18 (0)), some (.inl (c2)), some (.inl (u4)), some (rf 8 ((u4).toNatClampNeg)), some (.inr (.inl (v18))), none, some (.inr (.inl (n22))), none] [.inl (m_i σ25 8 ((u4).toNatClampNeg) 0), rf 6 (0)] σ25 (.inl none, σ') := h
      replace h := ei_p h rfl rfl rfl rfl
      obtain ⟨f, g, h⟩ := h
      replace hf := Nat.lt_trans g hf
      clear g
      replace h : EV F f 44 z44 90 [some (rf 2 (0)), some (rf 6 (c1)), some (rf 18 (0)), some (.inl (c2)), some (.inl (u4)), some (rf 8 ((u4).toNatClampNeg)), some (.inr (.inl (v18))), none, some (.inr (.inl (n22))), none] [.inr (.inl (v18)), .inl (m_i σ25 8 ((u4).toNatClampNeg) 0), rf 6 (0)] σ25 (.inl none, σ') := h
      replace h := ei_p h rfl rfl rfl rfl
      obtain ⟨f, g, h⟩ := h
      replace hf := Nat.lt_trans g hf
      clear g
      replace h : EV F f 44 z44 92 [some (rf 2 (0)), some (rf 6 (c1)), some (rf 18 (0)), some (.inl (c2)), some (.inl (u4)), some (rf 8 ((u4).toNatClampNeg)), some (.inr (.inl (v18))), none, some (.inr (.inl (n22))), none] [.inr (.inl (n22)), .inr (.inl (v18)), .inl (m_i σ25 8 ((u4).toNatClampNeg) 0), rf 6 (0)] σ25 (.inl none, σ') := h
      replace h := ei_p h rfl rfl rfl rfl
      obtain ⟨f, g, h⟩ := h
      replace hf := Nat.lt_trans g hf
      clear g
      replace h : EV F f 44 z44 93 [some (rf 2 (0)), some (rf 6 (c1)), some (rf 18 (0)), some (.inl (c2)), some (.inl (u4)), some (rf 8 ((u4).toNatClampNeg)), some (.inr (.inl (v18))), none, some (.inr (.inl (n22))), none] [.inr (.inl (-(n22))), .inr (.inl (v18)), .inl (m_i σ25 8 ((u4).toNatClampNeg) 0), rf 6 (0)] σ25 (.inl none, σ') := h
      replace h := bk_0 (ei_v (as := [.inr (.inl (-(n22))), .inr (.inl (v18)), .inl (m_i σ25 8 ((u4).toNatClampNeg) 0)]) h rfl rfl rfl) rfl z91_at rfl
      obtain ⟨σ29, r30, f, g, h⟩ := h
      replace hf := Nat.lt_trans g hf
      clear g
      have p31 := x91 hsσ25 r30
      have hsσ29 : HS σ29 := HS_run rfl r30 hsσ25
      refine ⟨σ29, fw_run W91 rfl r30, p31, ?_⟩
      replace h : EV F f 44 z44 96 [some (rf 2 (0)), some (rf 6 (c1)), some (rf 18 (0)), some (.inl (c2)), some (.inl (u4)), some (rf 8 ((u4).toNatClampNeg)), some (.inr (.inl (v18))), none, some (.inr (.inl (n22))), none] [] σ29 (.inl none, σ') := h
      replace h := ei_p h rfl rfl rfl rfl
      obtain ⟨f, g, h⟩ := h
      replace hf := Nat.lt_trans g hf
      clear g
      replace h : EV F f 44 z44 98 [some (rf 2 (0)), some (rf 6 (c1)), some (rf 18 (0)), some (.inl (c2)), some (.inl (u4)), some (rf 8 ((u4).toNatClampNeg)), some (.inr (.inl (v18))), none, some (.inr (.inl (n22))), none] [rf 8 ((u4).toNatClampNeg)] σ29 (.inl none, σ') := h
      replace h := ei_p h rfl rfl rfl rfl
      obtain ⟨f, g, h⟩ := h
      replace hf := Nat.lt_trans g hf
      clear g
      replace h : EV F f 44 z44 99 [some (rf 2 (0)), some (rf 6 (c1)), some (rf 18 (0)), some (.inl (c2)), some (.inl (u4)), some (rf 8 ((u4).toNatClampNeg)), some (.inr (.inl (v18))), none, some (.inr (.inl (n22))), none] [rf 8 ((u4).toNatClampNeg), rf 8 ((u4).toNatClampNeg)] σ29 (.inl none, σ') := h
      replace h := ei_get h rfl rfl
      obtain ⟨f, g, h⟩ := h
      replace hf := Nat.lt_trans g hf
      clear g
      replace h : EV F f 44 z44 102 [some (rf 2 (0)), some (rf 6 (c1)), some (rf 18 (0)), some (.inl (c2)), some (.inl (u4)), some (rf 8 ((u4).toNatClampNeg)), some (.inr (.inl (v18))), none, some (.inr (.inl (n22))), none] [.inr (.inl (m_l σ29 8 ((u4).toNatClampNeg) 8)), rf 8 ((u4).toNatClampNeg)] σ29 (.inl none, σ') := h
      replace h := ei_p h rfl rfl rfl rfl
      obtain ⟨f, g, h⟩ := h
      replace hf := Nat.lt_trans g hf
      clear g
      replace h : EV F f 44 z44 104 [some (rf 2 (0)), some (rf 6 (c1)), some (rf 18 (0)), some (.inl (c2)), some (.inl (u4)), some (rf 8 ((u4).toNatClampNeg)), some (.inr (.inl (v18))), none, some (.inr (.inl (n22))), none] [.inr (.inl (n22)), .inr (.inl (m_l σ29 8 ((u4).toNatClampNeg) 8)), rf 8 ((u4).toNatClampNeg)] σ29 (.inl none, σ') := h
      replace h := ei_p h rfl rfl rfl rfl
      obtain ⟨f, g, h⟩ := h
      replace hf := Nat.lt_trans g hf
      clear g
      replace h : EV F f 44 z44 105 [some (rf 2 (0)), some (rf 6 (c1)), some (rf 18 (0)), some (.inl (c2)), some (.inl (u4)), some (rf 8 ((u4).toNatClampNeg)), some (.inr (.inl (v18))), none, some (.inr (.inl (n22))), none] [.inr (.inl ((m_l σ29 8 ((u4).toNatClampNeg) 8) + (n22))), rf 8 ((u4).toNatClampNeg)] σ29 (.inl none, σ') := h
      replace h := ei_put h rfl
      obtain ⟨ht32, f, g, h⟩ := h
      replace hf := Nat.lt_trans g hf
      clear g
      obtain ⟨σ33, e34⟩ : ∃ s, s = m_set σ29 8 ((u4).toNatClampNeg) (8) (.inr (.inl ((m_l σ29 8 ((u4).toNatClampNeg) 8) + (n22)))) := ⟨_, rfl⟩
      rw [← e34] at h
      have hsσ33 : HS σ33 := by rw [e34]; exact HS_set hsσ29 rfl
      refine ⟨σ33, e34, ?_⟩
      replace h : EV F f 44 z44 108 [some (rf 2 (0)), some (rf 6 (c1)), some (rf 18 (0)), some (.inl (c2)), some (.inl (u4)), some (rf 8 ((u4).toNatClampNeg)), some (.inr (.inl (v18))), none, some (.inr (.inl (n22))), none] [] σ33 (.inl none, σ') := h
      replace h := ei_p h rfl rfl rfl rfl
      obtain ⟨f, g, h⟩ := h
      replace hf := Nat.lt_trans g hf
      clear g
      replace h : EV F f 44 z44 111 [some (rf 2 (0)), some (rf 6 (c1)), some (rf 18 (0)), some (.inl (c2)), some (.inl ((u4) + Int32.ofInt 1)), some (rf 8 ((u4).toNatClampNeg)), some (.inr (.inl (v18))), none, some (.inr (.inl (n22))), none] [] σ33 (.inl none, σ') := h
      replace h := ei_p h rfl rfl rfl rfl
      obtain ⟨f, g, h⟩ := h
      replace hf := Nat.lt_trans g hf
      clear g
      replace h : EV F f 44 z44 31 [some (rf 2 (0)), some (rf 6 (c1)), some (rf 18 (0)), some (.inl (c2)), some (.inl ((u4) + Int32.ofInt 1)), some (rf 8 ((u4).toNatClampNeg)), some (.inr (.inl (v18))), none, some (.inr (.inl (n22))), none] [] σ33 (.inl none, σ') := h
      exact IH f hf ((u4) + Int32.ofInt 1) (some (rf 8 ((u4).toNatClampNeg))) (some (.inr (.inl (v18)))) (none) (some (.inr (.inl (n22)))) (none) σ33 hsσ33 h
def P44 (σ : mS) (x1 : mR) (σ' : mS) : Prop := ∃ i1, x1 = some (6, i1) ∧ ∃ σ4, σ4 = m_set σ 6 (i1) (9) (.inl (Int32.ofInt 1)) ∧ ∃ σ7, σ7 = m_set σ4 6 (i1) (7) (.inl (Int32.ofInt 0)) ∧ ∃ σ10, σ10 = m_set σ7 2 (0) (8) (.inl ((m_i σ7 2 (0) 8) + (Int32.ofInt 1))) ∧ ∃ n, Q44_31 (i1) (Int32.ofInt 3) n (Int32.ofInt 0) σ10 σ'
theorem x44 {σ σ' : mS} {x1 : mR} (hs : HS σ) (h : ev_run sm_all 44 [rf 2 (0), .inr (.inr (x1))] σ (.inl none) σ') : P44 σ x1 σ' := by
  unfold P44
  obtain ⟨F, f, h⟩ := ei_go h z44_at
  replace h : EV F f 44 z44 0 [some (rf 2 (0)), some (.inr (.inr (x1))), none, none, none, none, none, none, none, none] [] σ (.inl none, σ') := h
  replace h := ei_p h rfl rfl rfl rfl
  obtain ⟨f, g, h⟩ := h
  clear g
  replace h : EV F f 44 z44 1 [some (rf 2 (0)), some (.inr (.inr (x1))), none, none, none, none, none, none, none, none] [.inr (.inr (x1))] σ (.inl none, σ') := h
  replace h := ei_p h rfl rfl rfl rfl
  obtain ⟨f, g, h⟩ := h
  clear g
  replace h : EV F f 44 z44 2 [some (rf 2 (0)), some (.inr (.inr (x1))), none, none, none, none, none, none, none, none] [.inl (Int32.ofInt 1), .inr (.inr (x1))] σ (.inl none, σ') := h
  obtain ⟨i1, e2⟩ := ei_pp h rfl
  rw [e2] at h
  refine ⟨i1, e2, ?_⟩
  replace h : EV F f 44 z44 2 [some (rf 2 (0)), some (rf 6 (i1)), none, none, none, none, none, none, none, none] [.inl (Int32.ofInt 1), rf 6 (i1)] σ (.inl none, σ') := h
  replace h := ei_put h rfl
  obtain ⟨ht3, f, g, h⟩ := h
  clear g
  obtain ⟨σ4, e5⟩ : ∃ s, s = m_set σ 6 (i1) (9) (.inl (Int32.ofInt 1)) := ⟨_, rfl⟩
  rw [← e5] at h
  have hsσ4 : HS σ4 := by rw [e5]; exact HS_set hs rfl
  refine ⟨σ4, e5, ?_⟩
  replace h : EV F f 44 z44 5 [some (rf 2 (0)), some (rf 6 (i1)), none, none, none, none, none, none, none, none] [] σ4 (.inl none, σ') := h
  replace h := ei_p h rfl rfl rfl rfl
  obtain ⟨f, g, h⟩ := h
  clear g
  replace h : EV F f 44 z44 6 [some (rf 2 (0)), some (rf 6 (i1)), none, none, none, none, none, none, none, none] [rf 6 (i1)] σ4 (.inl none, σ') := h
  replace h := ei_p h rfl rfl rfl rfl
  obtain ⟨f, g, h⟩ := h
  clear g
  replace h : EV F f 44 z44 7 [some (rf 2 (0)), some (rf 6 (i1)), none, none, none, none, none, none, none, none] [.inl (Int32.ofInt 0), rf 6 (i1)] σ4 (.inl none, σ') := h
  replace h := ei_put h rfl
  obtain ⟨ht6, f, g, h⟩ := h
  clear g
  obtain ⟨σ7, e8⟩ : ∃ s, s = m_set σ4 6 (i1) (7) (.inl (Int32.ofInt 0)) := ⟨_, rfl⟩
  rw [← e8] at h
  have hsσ7 : HS σ7 := by rw [e8]; exact HS_set hsσ4 rfl
  refine ⟨σ7, e8, ?_⟩
  replace h : EV F f 44 z44 10 [some (rf 2 (0)), some (rf 6 (i1)), none, none, none, none, none, none, none, none] [] σ7 (.inl none, σ') := h
  replace h := ei_p h rfl rfl rfl rfl
  obtain ⟨f, g, h⟩ := h
  clear g
  replace h : EV F f 44 z44 11 [some (rf 2 (0)), some (rf 6 (i1)), none, none, none, none, none, none, none, none] [rf 2 (0)] σ7 (.inl none, σ') := h
  replace h := ei_p h rfl rfl rfl rfl
  obtain ⟨f, g, h⟩ := h
  clear g
  replace h : EV F f 44 z44 12 [some (rf 2 (0)), some (rf 6 (i1)), none, none, none, none, none, none, none, none] [rf 2 (0), rf 2 (0)] σ7 (.inl none, σ') := h
  replace h := ei_get h rfl rfl
  obtain ⟨f, g, h⟩ := h
  clear g
  replace h : EV F f 44 z44 15 [some (rf 2 (0)), some (rf 6 (i1)), none, none, none, none, none, none, none, none] [.inl (m_i σ7 2 (0) 8), rf 2 (0)] σ7 (.inl none, σ') := h
  replace h := ei_p h rfl rfl rfl rfl
  obtain ⟨f, g, h⟩ := h
  clear g
  replace h : EV F f 44 z44 16 [some (rf 2 (0)), some (rf 6 (i1)), none, none, none, none, none, none, none, none] [.inl (Int32.ofInt 1), .inl (m_i σ7 2 (0) 8), rf 2 (0)] σ7 (.inl none, σ') := h
  replace h := ei_p h rfl rfl rfl rfl
  obtain ⟨f, g, h⟩ := h
  clear g
  replace h : EV F f 44 z44 17 [some (rf 2 (0)), some (rf 6 (i1)), none, none, none, none, none, none, none, none] [.inl ((m_i σ7 2 (0) 8) + (Int32.ofInt 1)), rf 2 (0)] σ7 (.inl none, σ') := h
  replace h := ei_put h rfl
  obtain ⟨ht9, f, g, h⟩ := h
  clear g
  obtain ⟨σ10, e11⟩ : ∃ s, s = m_set σ7 2 (0) (8) (.inl ((m_i σ7 2 (0) 8) + (Int32.ofInt 1))) := ⟨_, rfl⟩
  rw [← e11] at h
  have hsσ10 : HS σ10 := by rw [e11]; exact HS_set hsσ7 rfl
  refine ⟨σ10, e11, ?_⟩
  replace h : EV F f 44 z44 20 [some (rf 2 (0)), some (rf 6 (i1)), none, none, none, none, none, none, none, none] [] σ10 (.inl none, σ') := h
  replace h := ei_p h rfl rfl rfl rfl
  obtain ⟨f, g, h⟩ := h
  clear g
  replace h : EV F f 44 z44 21 [some (rf 2 (0)), some (rf 6 (i1)), none, none, none, none, none, none, none, none] [rf 2 (0)] σ10 (.inl none, σ') := h
  replace h := ei_get h rfl (HS_g2_2 hsσ10)
  obtain ⟨f, g, h⟩ := h
  clear g
  replace h : EV F f 44 z44 24 [some (rf 2 (0)), some (rf 6 (i1)), none, none, none, none, none, none, none, none] [rf 18 (0)] σ10 (.inl none, σ') := h
  replace h := ei_p h rfl rfl rfl rfl
  obtain ⟨f, g, h⟩ := h
  clear g
  replace h : EV F f 44 z44 25 [some (rf 2 (0)), some (rf 6 (i1)), some (rf 18 (0)), none, none, none, none, none, none, none] [] σ10 (.inl none, σ') := h
  replace h := ei_p h rfl rfl rfl rfl
  obtain ⟨f, g, h⟩ := h
  clear g
  replace h : EV F f 44 z44 26 [some (rf 2 (0)), some (rf 6 (i1)), some (rf 18 (0)), none, none, none, none, none, none, none] [rf 18 (0)] σ10 (.inl none, σ') := h
  replace h := ei_len h rfl (HS_l18_0 hsσ10) ⟨Nat.le_of_ble_eq_true rfl, Nat.le_of_ble_eq_true rfl⟩
  obtain ⟨f, g, h⟩ := h
  clear g
  replace h : EV F f 44 z44 27 [some (rf 2 (0)), some (rf 6 (i1)), some (rf 18 (0)), none, none, none, none, none, none, none] [.inl (Int32.ofInt 3)] σ10 (.inl none, σ') := h
  replace h := ei_p h rfl rfl rfl rfl
  obtain ⟨f, g, h⟩ := h
  clear g
  replace h : EV F f 44 z44 28 [some (rf 2 (0)), some (rf 6 (i1)), some (rf 18 (0)), some (.inl (Int32.ofInt 3)), none, none, none, none, none, none] [] σ10 (.inl none, σ') := h
  replace h := ei_p h rfl rfl rfl rfl
  obtain ⟨f, g, h⟩ := h
  clear g
  replace h : EV F f 44 z44 29 [some (rf 2 (0)), some (rf 6 (i1)), some (rf 18 (0)), some (.inl (Int32.ofInt 3)), none, none, none, none, none, none] [.inl (Int32.ofInt 0)] σ10 (.inl none, σ') := h
  replace h := ei_p h rfl rfl rfl rfl
  obtain ⟨f, g, h⟩ := h
  clear g
  replace h : EV F f 44 z44 31 [some (rf 2 (0)), some (rf 6 (i1)), some (rf 18 (0)), some (.inl (Int32.ofInt 3)), some (.inl (Int32.ofInt 0)), none, none, none, none, none] [] σ10 (.inl none, σ') := h
  exact ⟨f + 1, q44_31 (f + 1) f (Nat.lt_succ_self f) (Int32.ofInt 0) _ _ _ _ _ σ10 hsσ10 h⟩
def z45 : mAl := ((yX2_sellOut, cX2_sellOut, 10, (some .long), { frames := 4, cells := 0, slots := 0, locals := 115 }, []), rw_X2_sellOut, false)
theorem z45_at : m_alF[45]? = some z45 := rfl
abbrev L45 : List (Nat × Nat) := [(2, 9), (2, 10), (6, 2), (6, 3), (6, 4), (6, 10), (8, 8), (14, 0)]
abbrev w45 : Nat → Nat → Bool := wl L45
def S45 : List Nat := [22, 24, 45, 46, 47, 48, 90, 91, 92]
theorem W45 : fw_S w45 S45 = true := by decide +kernel
def J45_24 (τ : mS) (w : Int64) (σ' : mS) : Prop := w = (Int64.ofNat 0) ∧ σ' = τ
theorem j45_24 {F f : Nat} {σ' τ : mS} {y0 : Option mV} {y1 : Option mV} {y2 : Option mV} {y3 : Option mV} {y4 : Option mV} {y5 : Option mV} {y6 : Option mV} {y7 : Option mV} {y8 : Option mV} {y9 : Option mV} {w : Int64} (hsτ : HS τ) (h : EV F f 45 z45 24 [y0, y1, y2, y3, y4, y5, y6, y7, y8, y9] [] τ (.inl (some (.inr (.inl w))), σ')) : J45_24 τ w σ' := by
  unfold J45_24
  replace h := ei_p h rfl rfl rfl rfl
  obtain ⟨f, g, h⟩ := h
  clear g
  replace h : EV F f 45 z45 25 [y0, y1, y2, y3, y4, y5, y6, y7, y8, y9] [.inr (.inl (Int64.ofNat 0))] τ (.inl (some (.inr (.inl w))), σ') := h
  have e := ei_lret h rfl
  cases e
  exact ⟨rfl, rfl⟩
def J45_105 (u6 : Int64) (τ : mS) (w : Int64) (σ' : mS) : Prop := w = (u6) ∧ σ' = τ
theorem j45_105 {F f : Nat} {σ' τ : mS} {u6 : Int64} {y0 : Option mV} {y1 : Option mV} {y2 : Option mV} {y3 : Option mV} {y4 : Option mV} {y5 : Option mV} {y8 : Option mV} {y9 : Option mV} {w : Int64} (hsτ : HS τ) (h : EV F f 45 z45 105 [y0, y1, y2, y3, y4, y5, some (.inr (.inl (u6))), none, y8, y9] [] τ (.inl (some (.inr (.inl w))), σ')) : J45_105 u6 τ w σ' := by
  unfold J45_105
  replace h := ei_p h rfl rfl rfl rfl
  obtain ⟨f, g, h⟩ := h
  clear g
  replace h : EV F f 45 z45 107 [y0, y1, y2, y3, y4, y5, some (.inr (.inl (u6))), none, y8, y9] [.inr (.inl (u6))] τ (.inl (some (.inr (.inl w))), σ') := h
  have e := ei_lret h rfl
  cases e
  exact ⟨rfl, rfl⟩
def P45 (σ : mS) (x1 : Int32) (x2 : Int32) (x3 : Int32) (w : Int64) (σ' : mS) : Prop := ∃ v1, P24 σ (x1) v1 ∧ ∃ v5, P22 σ (x2) v5 ∧ ((v1 = none ∧ J45_24 σ w σ') ∨ (∃ q10, v1 = some q10 ∧ ((v5 = none ∧ J45_24 σ w σ') ∨ (∃ q14, v5 = some q14 ∧ ∃ v17, P90 σ (0) (x1) v17 ∧ ∃ σ22, fw_e w91 σ σ22 ∧ P91 σ (0) (x1) (-(v17)) ((v17) * ((x3).toInt64)) σ22 ∧ ∃ i25, (some q14 : mR) = some (6, i25) ∧ ∃ σ28, fw_e w91 σ22 σ28 ∧ P91 σ22 (i25) (x1) (v17) (-((v17) * ((x3).toInt64))) σ28 ∧ ∃ i31, (some q10 : mR) = some (8, i31) ∧ ∃ σ34, σ34 = m_set σ28 2 (0) (10) (.inr (.inl ((m_l σ28 2 (0) 10) + ((m_l σ28 8 (i31) 8) - ((v17) * ((x3).toInt64)))))) ∧ ∃ σ37, σ37 = m_set σ34 8 (i31) (8) (.inr (.inl (Int64.ofNat 0))) ∧ ∃ v39, P92 σ37 (0) v39 ∧ (((v39).toInt = (0 : Int) ∧ J45_105 (v17) σ37 w σ') ∨ (¬ ((v39).toInt = (0 : Int)) ∧ ∃ v44 σ45, fw_e w46 σ37 σ45 ∧ P46 σ37 v44 σ45 ∧ J45_105 (v17) σ45 w σ'))))))
theorem x45 {σ σ' : mS} {x1 : Int32} {x2 : Int32} {x3 : Int32} {w : Int64} (hs : HS σ) (h : ev_run sm_all 45 [rf 2 (0), .inl (x1), .inl (x2), .inl (x3)] σ (.inl (some (.inr (.inl w)))) σ') : P45 σ x1 x2 x3 w σ' := by
  unfold P45
  obtain ⟨F, f, h⟩ := ei_go h z45_at
  replace h : EV F f 45 z45 0 [some (rf 2 (0)), some (.inl (x1)), some (.inl (x2)), some (.inl (x3)), none, none, none, none, none, none] [] σ (.inl (some (.inr (.inl w))), σ') := h
  replace h := ei_p h rfl rfl rfl rfl
  obtain ⟨f, g, h⟩ := h
  clear g
  replace h : EV F f 45 z45 1 [some (rf 2 (0)), some (.inl (x1)), some (.inl (x2)), some (.inl (x3)), none, none, none, none, none, none] [rf 2 (0)] σ (.inl (some (.inr (.inl w))), σ') := h
  replace h := ei_p h rfl rfl rfl rfl
  obtain ⟨f, g, h⟩ := h
  clear g
  replace h : EV F f 45 z45 2 [some (rf 2 (0)), some (.inl (x1)), some (.inl (x2)), some (.inl (x3)), none, none, none, none, none, none] [.inl (x1), rf 2 (0)] σ (.inl (some (.inr (.inl w))), σ') := h
  replace h := bk_R (ei_v (as := [.inl (x1)]) h rfl rfl rfl) rfl z24_at rfl
  obtain ⟨v1, σ2, r3, f, g, h⟩ := h
  clear g
  have er3 := ro_run rfl r3
  rw [er3] at h r3
  have p4 := x24 hs r3
  refine ⟨v1, p4, ?_⟩
  replace h : EV F f 45 z45 5 [some (rf 2 (0)), some (.inl (x1)), some (.inl (x2)), some (.inl (x3)), none, none, none, none, none, none] [.inr (.inr (v1))] σ (.inl (some (.inr (.inl w))), σ') := h
  replace h := ei_p h rfl rfl rfl rfl
  obtain ⟨f, g, h⟩ := h
  clear g
  replace h : EV F f 45 z45 7 [some (rf 2 (0)), some (.inl (x1)), some (.inl (x2)), some (.inl (x3)), some (.inr (.inr (v1))), none, none, none, none, none] [] σ (.inl (some (.inr (.inl w))), σ') := h
  replace h := ei_p h rfl rfl rfl rfl
  obtain ⟨f, g, h⟩ := h
  clear g
  replace h : EV F f 45 z45 8 [some (rf 2 (0)), some (.inl (x1)), some (.inl (x2)), some (.inl (x3)), some (.inr (.inr (v1))), none, none, none, none, none] [rf 2 (0)] σ (.inl (some (.inr (.inl w))), σ') := h
  replace h := ei_p h rfl rfl rfl rfl
  obtain ⟨f, g, h⟩ := h
  clear g
  replace h : EV F f 45 z45 9 [some (rf 2 (0)), some (.inl (x1)), some (.inl (x2)), some (.inl (x3)), some (.inr (.inr (v1))), none, none, none, none, none] [.inl (x2), rf 2 (0)] σ (.inl (some (.inr (.inl w))), σ') := h
  replace h := bk_R (ei_v (as := [.inl (x2)]) h rfl rfl rfl) rfl z22_at rfl
  obtain ⟨v5, σ6, r7, f, g, h⟩ := h
  clear g
  have er7 := ro_run rfl r7
  rw [er7] at h r7
  have p8 := x22 hs r7
  refine ⟨v5, p8, ?_⟩
  replace h : EV F f 45 z45 12 [some (rf 2 (0)), some (.inl (x1)), some (.inl (x2)), some (.inl (x3)), some (.inr (.inr (v1))), none, none, none, none, none] [.inr (.inr (v5))] σ (.inl (some (.inr (.inl w))), σ') := h
  replace h := ei_p h rfl rfl rfl rfl
  obtain ⟨f, g, h⟩ := h
  clear g
  replace h : EV F f 45 z45 14 [some (rf 2 (0)), some (.inl (x1)), some (.inl (x2)), some (.inl (x3)), some (.inr (.inr (v1))), some (.inr (.inr (v5))), none, none, none, none] [] σ (.inl (some (.inr (.inl w))), σ') := h
  replace h := ei_p h rfl rfl rfl rfl
  obtain ⟨f, g, h⟩ := h
  clear g
  replace h : EV F f 45 z45 16 [some (rf 2 (0)), some (.inl (x1)), some (.inl (x2)), some (.inl (x3)), some (.inr (.inr (v1))), some (.inr (.inr (v5))), none, none, none, none] [.inr (.inr (v1))] σ (.inl (some (.inr (.inl w))), σ') := h
  rcases r_cs (v1) with e9 | ⟨q10, e9⟩
  · skip
    rw [e9] at h
    refine Or.inl ⟨e9, ?_⟩
    replace h : EV F f 45 z45 16 [some (rf 2 (0)), some (.inl (x1)), some (.inl (x2)), some (.inl (x3)), some (.inr (.inr none)), some (.inr (.inr (v5))), none, none, none, none] [.inr (.inr none)] σ (.inl (some (.inr (.inl w))), σ') := h
    replace h := ei_c h rfl rfl rfl
    rcases h with ⟨hp11, f, g, h⟩ | ⟨hp11, f, g, h⟩
    · skip
      clear g
      replace h : EV F f 45 z45 24 [some (rf 2 (0)), some (.inl (x1)), some (.inl (x2)), some (.inl (x3)), some (.inr (.inr none)), some (.inr (.inr (v5))), none, none, none, none] [] σ (.inl (some (.inr (.inl w))), σ') := h
      exact j45_24 hs h
    · exact absurd rfl hp11
  · skip
    rw [e9] at h
    refine Or.inr ⟨q10, e9, ?_⟩
    replace h : EV F f 45 z45 16 [some (rf 2 (0)), some (.inl (x1)), some (.inl (x2)), some (.inl (x3)), some (.inr (.inr (some q10))), some (.inr (.inr (v5))), none, none, none, none] [.inr (.inr (some q10))] σ (.inl (some (.inr (.inl w))), σ') := h
    replace h := ei_c h rfl rfl rfl
    rcases h with ⟨hp12, f, g, h⟩ | ⟨hp12, f, g, h⟩
    · exact absurd hp12 (fun z => by cases z)
    · skip
      clear g
      replace h : EV F f 45 z45 19 [some (rf 2 (0)), some (.inl (x1)), some (.inl (x2)), some (.inl (x3)), some (.inr (.inr (some q10))), some (.inr (.inr (v5))), none, none, none, none] [] σ (.inl (some (.inr (.inl w))), σ') := h
      replace h := ei_p h rfl rfl rfl rfl
      obtain ⟨f, g, h⟩ := h
      clear g
      replace h : EV F f 45 z45 21 [some (rf 2 (0)), some (.inl (x1)), some (.inl (x2)), some (.inl (x3)), some (.inr (.inr (some q10))), some (.inr (.inr (v5))), none, none, none, none] [.inr (.inr (v5))] σ (.inl (some (.inr (.inl w))), σ') := h
      rcases r_cs (v5) with e13 | ⟨q14, e13⟩
      · skip
        rw [e13] at h
        refine Or.inl ⟨e13, ?_⟩
        replace h : EV F f 45 z45 21 [some (rf 2 (0)), some (.inl (x1)), some (.inl (x2)), some (.inl (x3)), some (.inr (.inr (some q10))), some (.inr (.inr none)), none, none, none, none] [.inr (.inr none)] σ (.inl (some (.inr (.inl w))), σ') := h
        replace h := ei_c h rfl rfl rfl
        rcases h with ⟨hp15, f, g, h⟩ | ⟨hp15, f, g, h⟩
        · exact absurd rfl hp15
        · skip
          clear g
          replace h : EV F f 45 z45 24 [some (rf 2 (0)), some (.inl (x1)), some (.inl (x2)), some (.inl (x3)), some (.inr (.inr (some q10))), some (.inr (.inr none)), none, none, none, none] [] σ (.inl (some (.inr (.inl w))), σ') := h
          exact j45_24 hs h
      · skip
        rw [e13] at h
        refine Or.inr ⟨q14, e13, ?_⟩
        replace h : EV F f 45 z45 21 [some (rf 2 (0)), some (.inl (x1)), some (.inl (x2)), some (.inl (x3)), some (.inr (.inr (some q10))), some (.inr (.inr (some q14))), none, none, none, none] [.inr (.inr (some q14))] σ (.inl (some (.inr (.inl w))), σ') := h
        replace h := ei_c h rfl rfl rfl
        rcases h with ⟨hp16, f, g, h⟩ | ⟨hp16, f, g, h⟩
        · skip
          clear g
          replace h : EV F f 45 z45 26 [some (rf 2 (0)), some (.inl (x1)), some (.inl (x2)), some (.inl (x3)), some (.inr (.inr (some q10))), some (.inr (.inr (some q14))), none, none, none, none] [] σ (.inl (some (.inr (.inl w))), σ') := h
          replace h := ei_p h rfl rfl rfl rfl
          obtain ⟨f, g, h⟩ := h
          clear g
          replace h : EV F f 45 z45 27 [some (rf 2 (0)), some (.inl (x1)), some (.inl (x2)), some (.inl (x3)), some (.inr (.inr (some q10))), some (.inr (.inr (some q14))), none, none, none, none] [rf 2 (0)] σ (.inl (some (.inr (.inl w))), σ') := h
          replace h := ei_get h rfl (HS_g2_1 hs)
          obtain ⟨f, g, h⟩ := h
          clear g
          replace h : EV F f 45 z45 30 [some (rf 2 (0)), some (.inl (x1)), some (.inl (x2)), some (.inl (x3)), some (.inr (.inr (some q10))), some (.inr (.inr (some q14))), none, none, none, none] [rf 6 (0)] σ (.inl (some (.inr (.inl w))), σ') := h
          replace h := ei_p h rfl rfl rfl rfl
          obtain ⟨f, g, h⟩ := h
          clear g
          replace h : EV F f 45 z45 31 [some (rf 2 (0)), some (.inl (x1)), some (.inl (x2)), some (.inl (x3)), some (.inr (.inr (some q10))), some (.inr (.inr (some q14))), none, none, none, none] [.inl (x1), rf 6 (0)] σ (.inl (some (.inr (.inl w))), σ') := h
          replace h := bk_L (ei_v (as := [.inl (x1)]) h rfl rfl rfl) rfl z90_at rfl
          obtain ⟨v17, σ18, r19, f, g, h⟩ := h
          clear g
          have er19 := ro_run rfl r19
          rw [er19] at h r19
          have p20 := x90 hs r19
          refine ⟨v17, p20, ?_⟩
          replace h : EV F f 45 z45 34 [some (rf 2 (0)), some (.inl (x1)), some (.inl (x2)), some (.inl (x3)), some (.inr (.inr (some q10))), some (.inr (.inr (some q14))), none, none, none, none] [.inr (.inl (v17))] σ (.inl (some (.inr (.inl w))), σ') := h
          replace h := ei_p h rfl rfl rfl rfl
          obtain ⟨f, g, h⟩ := h
          clear g
          replace h : EV F f 45 z45 36 [some (rf 2 (0)), some (.inl (x1)), some (.inl (x2)), some (.inl (x3)), some (.inr (.inr (some q10))), some (.inr (.inr (some q14))), some (.inr (.inl (v17))), none, none, none] [] σ (.inl (some (.inr (.inl w))), σ') := h
          replace h := ei_p h rfl rfl rfl rfl
          obtain ⟨f, g, h⟩ := h
          clear g
          replace h : EV F f 45 z45 38 [some (rf 2 (0)), some (.inl (x1)), some (.inl (x2)), some (.inl (x3)), some (.inr (.inr (some q10))), some (.inr (.inr (some q14))), some (.inr (.inl (v17))), none, none, none] [.inr (.inl (v17))] σ (.inl (some (.inr (.inl w))), σ') := h
          replace h := ei_p h rfl rfl rfl rfl
          obtain ⟨f, g, h⟩ := h
          clear g
          replace h : EV F f 45 z45 39 [some (rf 2 (0)), some (.inl (x1)), some (.inl (x2)), some (.inl (x3)), some (.inr (.inr (some q10))), some (.inr (.inr (some q14))), some (.inr (.inl (v17))), none, none, none] [.inl (x3), .inr (.inl (v17))] σ (.inl (some (.inr (.inl w))), σ') := h
          replace h := ei_p h rfl rfl rfl rfl
          obtain ⟨f, g, h⟩ := h
          clear g
          replace h : EV F f 45 z45 40 [some (rf 2 (0)), some (.inl (x1)), some (.inl (x2)), some (.inl (x3)), some (.inr (.inr (some q10))), some (.inr (.inr (some q14))), some (.inr (.inl (v17))), none, none, none] [.inr (.inl ((x3).toInt64)), .inr (.inl (v17))] σ (.inl (some (.inr (.inl w))), σ') := h
          replace h := ei_p h rfl rfl rfl rfl
          obtain ⟨f, g, h⟩ := h
          clear g
          replace h : EV F f 45 z45 41 [some (rf 2 (0)), some (.inl (x1)), some (.inl (x2)), some (.inl (x3)), some (.inr (.inr (some q10))), some (.inr (.inr (some q14))), some (.inr (.inl (v17))), none, none, none] [.inr (.inl ((v17) * ((x3).toInt64)))] σ (.inl (some (.inr (.inl w))), σ') := h
          replace h := ei_p h rfl rfl rfl rfl
          obtain ⟨f, g, h⟩ := h
          clear g
          replace h : EV F f 45 z45 43 [some (rf 2 (0)), some (.inl (x1)), some (.inl (x2)), some (.inl (x3)), some (.inr (.inr (some q10))), some (.inr (.inr (some q14))), some (.inr (.inl (v17))), none, some (.inr (.inl ((v17) * ((x3).toInt64)))), none] [] σ (.inl (some (.inr (.inl w))), σ') := h
          replace h := ei_p h rfl rfl rfl rfl
          obtain ⟨f, g, h⟩ := h
          clear g
          replace h : EV F f 45 z45 44 [some (rf 2 (0)), some (.inl (x1)), some (.inl (x2)), some (.inl (x3)), some (.inr (.inr (some q10))), some (.inr (.inr (some q14))), some (.inr (.inl (v17))), none, some (.inr (.inl ((v17) * ((x3).toInt64)))), none] [rf 2 (0)] σ (.inl (some (.inr (.inl w))), σ') := h
          replace h := ei_get h rfl (HS_g2_1 hs)
          obtain ⟨f, g, h⟩ := h
          clear g
          replace h : EV F f 45 z45 47 [some (rf 2 (0)), some (.inl (x1)), some (.inl (x2)), some (.inl (x3)), some (.inr (.inr (some q10))), some (.inr (.inr (some q14))), some (.inr (.inl (v17))), none, some (.inr (.inl ((v17) * ((x3).toInt64)))), none] [rf 6 (0)] σ (.inl (some (.inr (.inl w))), σ') := h
          replace h := ei_p h rfl rfl rfl rfl
          obtain ⟨f, g, h⟩ := h
          clear g
          replace h : EV F f 45 z45 48 [some (rf 2 (0)), some (.inl (x1)), some (.inl (x2)), some (.inl (x3)), some (.inr (.inr (some q10))), some (.inr (.inr (some q14))), some (.inr (.inl (v17))), none, some (.inr (.inl ((v17) * ((x3).toInt64)))), none] [.inl (x1), rf 6 (0)] σ (.inl (some (.inr (.inl w))), σ') := h
          replace h := ei_p h rfl rfl rfl rfl
          obtain ⟨f, g, h⟩ := h
          clear g
          replace h : EV F f 45 z45 50 [some (rf 2 (0)), some (.inl (x1)), some (.inl (x2)), some (.inl (x3)), some (.inr (.inr (some q10))), some (.inr (.inr (some q14))), some (.inr (.inl (v17))), none, some (.inr (.inl ((v17) * ((x3).toInt64)))), none] [.inr (.inl (v17)), .inl (x1), rf 6 (0)] σ (.inl (some (.inr (.inl w))), σ') := h
          replace h := ei_p h rfl rfl rfl rfl
          obtain ⟨f, g, h⟩ := h
          clear g
          replace h : EV F f 45 z45 51 [some (rf 2 (0)), some (.inl (x1)), some (.inl (x2)), some (.inl (x3)), some (.inr (.inr (some q10))), some (.inr (.inr (some q14))), some (.inr (.inl (v17))), none, some (.inr (.inl ((v17) * ((x3).toInt64)))), none] [.inr (.inl (-(v17))), .inl (x1), rf 6 (0)] σ (.inl (some (.inr (.inl w))), σ') := h
          replace h := ei_p h rfl rfl rfl rfl
          obtain ⟨f, g, h⟩ := h
          clear g
          replace h : EV F f 45 z45 53 [some (rf 2 (0)), some (.inl (x1)), some (.inl (x2)), some (.inl (x3)), some (.inr (.inr (some q10))), some (.inr (.inr (some q14))), some (.inr (.inl (v17))), none, some (.inr (.inl ((v17) * ((x3).toInt64)))), none] [.inr (.inl ((v17) * ((x3).toInt64))), .inr (.inl (-(v17))), .inl (x1), rf 6 (0)] σ (.inl (some (.inr (.inl w))), σ') := h
          replace h := bk_0 (ei_v (as := [.inr (.inl ((v17) * ((x3).toInt64))), .inr (.inl (-(v17))), .inl (x1)]) h rfl rfl rfl) rfl z91_at rfl
          obtain ⟨σ22, r23, f, g, h⟩ := h
          clear g
          have p24 := x91 hs r23
          have hsσ22 : HS σ22 := HS_run rfl r23 hs
          refine ⟨σ22, fw_run W91 rfl r23, p24, ?_⟩
          replace h : EV F f 45 z45 56 [some (rf 2 (0)), some (.inl (x1)), some (.inl (x2)), some (.inl (x3)), some (.inr (.inr (some q10))), some (.inr (.inr (some q14))), some (.inr (.inl (v17))), none, some (.inr (.inl ((v17) * ((x3).toInt64)))), none] [] σ22 (.inl (some (.inr (.inl w))), σ') := h
          replace h := ei_p h rfl rfl rfl rfl
          obtain ⟨f, g, h⟩ := h
          clear g
          replace h : EV F f 45 z45 58 [some (rf 2 (0)), some (.inl (x1)), some (.inl (x2)), some (.inl (x3)), some (.inr (.inr (some q10))), some (.inr (.inr (some q14))), some (.inr (.inl (v17))), none, some (.inr (.inl ((v17) * ((x3).toInt64)))), none] [.inr (.inr (some q14))] σ22 (.inl (some (.inr (.inl w))), σ') := h
          replace h := ei_p h rfl rfl rfl rfl
          obtain ⟨f, g, h⟩ := h
          clear g
          replace h : EV F f 45 z45 59 [some (rf 2 (0)), some (.inl (x1)), some (.inl (x2)), some (.inl (x3)), some (.inr (.inr (some q10))), some (.inr (.inr (some q14))), some (.inr (.inl (v17))), none, some (.inr (.inl ((v17) * ((x3).toInt64)))), none] [.inl (x1), .inr (.inr (some q14))] σ22 (.inl (some (.inr (.inl w))), σ') := h
          replace h := ei_p h rfl rfl rfl rfl
          obtain ⟨f, g, h⟩ := h
          clear g
          replace h : EV F f 45 z45 61 [some (rf 2 (0)), some (.inl (x1)), some (.inl (x2)), some (.inl (x3)), some (.inr (.inr (some q10))), some (.inr (.inr (some q14))), some (.inr (.inl (v17))), none, some (.inr (.inl ((v17) * ((x3).toInt64)))), none] [.inr (.inl (v17)), .inl (x1), .inr (.inr (some q14))] σ22 (.inl (some (.inr (.inl w))), σ') := h
          replace h := ei_p h rfl rfl rfl rfl
          obtain ⟨f, g, h⟩ := h
          clear g
          replace h : EV F f 45 z45 63 [some (rf 2 (0)), some (.inl (x1)), some (.inl (x2)), some (.inl (x3)), some (.inr (.inr (some q10))), some (.inr (.inr (some q14))), some (.inr (.inl (v17))), none, some (.inr (.inl ((v17) * ((x3).toInt64)))), none] [.inr (.inl ((v17) * ((x3).toInt64))), .inr (.inl (v17)), .inl (x1), .inr (.inr (some q14))] σ22 (.inl (some (.inr (.inl w))), σ') := h
          replace h := ei_p h rfl rfl rfl rfl
          obtain ⟨f, g, h⟩ := h
          clear g
          replace h : EV F f 45 z45 64 [some (rf 2 (0)), some (.inl (x1)), some (.inl (x2)), some (.inl (x3)), some (.inr (.inr (some q10))), some (.inr (.inr (some q14))), some (.inr (.inl (v17))), none, some (.inr (.inl ((v17) * ((x3).toInt64)))), none] [.inr (.inl (-((v17) * ((x3).toInt64)))), .inr (.inl (v17)), .inl (x1), .inr (.inr (some q14))] σ22 (.inl (some (.inr (.inl w))), σ') := h
          obtain ⟨i25, e26⟩ := ei_vp (as := [.inr (.inl (-((v17) * ((x3).toInt64)))), .inr (.inl (v17)), .inl (x1)]) h rfl rfl
          rw [Option.some.inj e26] at h
          refine ⟨i25, e26, ?_⟩
          replace h : EV F f 45 z45 64 [some (rf 2 (0)), some (.inl (x1)), some (.inl (x2)), some (.inl (x3)), some (.inr (.inr (some q10))), some (rf 6 (i25)), some (.inr (.inl (v17))), none, some (.inr (.inl ((v17) * ((x3).toInt64)))), none] [.inr (.inl (-((v17) * ((x3).toInt64)))), .inr (.inl (v17)), .inl (x1), rf 6 (i25)] σ22 (.inl (some (.inr (.inl w))), σ') := h
          replace h := bk_0 (ei_v (as := [.inr (.inl (-((v17) * ((x3).toInt64)))), .inr (.inl (v17)), .inl (x1)]) h rfl rfl rfl) rfl z91_at rfl
          obtain ⟨σ28, r29, f, g, h⟩ := h
          clear g
          have p30 := x91 hsσ22 r29
          have hsσ28 : HS σ28 := HS_run rfl r29 hsσ22
          refine ⟨σ28, fw_run W91 rfl r29, p30, ?_⟩
          replace h : EV F f 45 z45 67 [some (rf 2 (0)), some (.inl (x1)), some (.inl (x2)), some (.inl (x3)), some (.inr (.inr (some q10))), some (rf 6 (i25)), some (.inr (.inl (v17))), none, some (.inr (.inl ((v17) * ((x3).toInt64)))), none] [] σ28 (.inl (some (.inr (.inl w))), σ') := h
          replace h := ei_p h rfl rfl rfl rfl
          obtain ⟨f, g, h⟩ := h
          clear g
          replace h : EV F f 45 z45 68 [some (rf 2 (0)), some (.inl (x1)), some (.inl (x2)), some (.inl (x3)), some (.inr (.inr (some q10))), some (rf 6 (i25)), some (.inr (.inl (v17))), none, some (.inr (.inl ((v17) * ((x3).toInt64)))), none] [rf 2 (0)] σ28 (.inl (some (.inr (.inl w))), σ') := h
          replace h := ei_p h rfl rfl rfl rfl
          obtain ⟨f, g, h⟩ := h
          clear g
          replace h : EV F f 45 z45 69 [some (rf 2 (0)), some (.inl (x1)), some (.inl (x2)), some (.inl (x3)), some (.inr (.inr (some q10))), some (rf 6 (i25)), some (.inr (.inl (v17))), none, some (.inr (.inl ((v17) * ((x3).toInt64)))), none] [rf 2 (0), rf 2 (0)] σ28 (.inl (some (.inr (.inl w))), σ') := h
          replace h := ei_get h rfl rfl
          obtain ⟨f, g, h⟩ := h
          clear g
          replace h : EV F f 45 z45 72 [some (rf 2 (0)), some (.inl (x1)), some (.inl (x2)), some (.inl (x3)), some (.inr (.inr (some q10))), some (rf 6 (i25)), some (.inr (.inl (v17))), none, some (.inr (.inl ((v17) * ((x3).toInt64)))), none] [.inr (.inl (m_l σ28 2 (0) 10)), rf 2 (0)] σ28 (.inl (some (.inr (.inl w))), σ') := h
          replace h := ei_p h rfl rfl rfl rfl
          obtain ⟨f, g, h⟩ := h
          clear g
          replace h : EV F f 45 z45 74 [some (rf 2 (0)), some (.inl (x1)), some (.inl (x2)), some (.inl (x3)), some (.inr (.inr (some q10))), some (rf 6 (i25)), some (.inr (.inl (v17))), none, some (.inr (.inl ((v17) * ((x3).toInt64)))), none] [.inr (.inr (some q10)), .inr (.inl (m_l σ28 2 (0) 10)), rf 2 (0)] σ28 (.inl (some (.inr (.inl w))), σ') := h
          obtain ⟨i31, e32⟩ := ei_gp h rfl
          rw [Option.some.inj e32] at h
          refine ⟨i31, e32, ?_⟩
          replace h : EV F f 45 z45 74 [some (rf 2 (0)), some (.inl (x1)), some (.inl (x2)), some (.inl (x3)), some (rf 8 (i31)), some (rf 6 (i25)), some (.inr (.inl (v17))), none, some (.inr (.inl ((v17) * ((x3).toInt64)))), none] [rf 8 (i31), .inr (.inl (m_l σ28 2 (0) 10)), rf 2 (0)] σ28 (.inl (some (.inr (.inl w))), σ') := h
          replace h := ei_get h rfl rfl
          obtain ⟨f, g, h⟩ := h
          clear g
          replace h : EV F f 45 z45 77 [some (rf 2 (0)), some (.inl (x1)), some (.inl (x2)), some (.inl (x3)), some (rf 8 (i31)), some (rf 6 (i25)), some (.inr (.inl (v17))), none, some (.inr (.inl ((v17) * ((x3).toInt64)))), none] [.inr (.inl (m_l σ28 8 (i31) 8)), .inr (.inl (m_l σ28 2 (0) 10)), rf 2 (0)] σ28 (.inl (some (.inr (.inl w))), σ') := h
          replace h := ei_p h rfl rfl rfl rfl
          obtain ⟨f, g, h⟩ := h
          clear g
          replace h : EV F f 45 z45 79 [some (rf 2 (0)), some (.inl (x1)), some (.inl (x2)), some (.inl (x3)), some (rf 8 (i31)), some (rf 6 (i25)), some (.inr (.inl (v17))), none, some (.inr (.inl ((v17) * ((x3).toInt64)))), none] [.inr (.inl ((v17) * ((x3).toInt64))), .inr (.inl (m_l σ28 8 (i31) 8)), .inr (.inl (m_l σ28 2 (0) 10)), rf 2 (0)] σ28 (.inl (some (.inr (.inl w))), σ') := h
          replace h := ei_p h rfl rfl rfl rfl
          obtain ⟨f, g, h⟩ := h
          clear g
          replace h : EV F f 45 z45 80 [some (rf 2 (0)), some (.inl (x1)), some (.inl (x2)), some (.inl (x3)), some (rf 8 (i31)), some (rf 6 (i25)), some (.inr (.inl (v17))), none, some (.inr (.inl ((v17) * ((x3).toInt64)))), none] [.inr (.inl ((m_l σ28 8 (i31) 8) - ((v17) * ((x3).toInt64)))), .inr (.inl (m_l σ28 2 (0) 10)), rf 2 (0)] σ28 (.inl (some (.inr (.inl w))), σ') := h
          replace h := ei_p h rfl rfl rfl rfl
          obtain ⟨f, g, h⟩ := h
          clear g
          replace h : EV F f 45 z45 81 [some (rf 2 (0)), some (.inl (x1)), some (.inl (x2)), some (.inl (x3)), some (rf 8 (i31)), some (rf 6 (i25)), some (.inr (.inl (v17))), none, some (.inr (.inl ((v17) * ((x3).toInt64)))), none] [.inr (.inl ((m_l σ28 2 (0) 10) + ((m_l σ28 8 (i31) 8) - ((v17) * ((x3).toInt64))))), rf 2 (0)] σ28 (.inl (some (.inr (.inl w))), σ') := h
          replace h := ei_put h rfl
          obtain ⟨ht33, f, g, h⟩ := h
          clear g
          obtain ⟨σ34, e35⟩ : ∃ s, s = m_set σ28 2 (0) (10) (.inr (.inl ((m_l σ28 2 (0) 10) + ((m_l σ28 8 (i31) 8) - ((v17) * ((x3).toInt64)))))) := ⟨_, rfl⟩
          rw [← e35] at h
          have hsσ34 : HS σ34 := by rw [e35]; exact HS_set hsσ28 rfl
          refine ⟨σ34, e35, ?_⟩
          replace h : EV F f 45 z45 84 [some (rf 2 (0)), some (.inl (x1)), some (.inl (x2)), some (.inl (x3)), some (rf 8 (i31)), some (rf 6 (i25)), some (.inr (.inl (v17))), none, some (.inr (.inl ((v17) * ((x3).toInt64)))), none] [] σ34 (.inl (some (.inr (.inl w))), σ') := h
          replace h := ei_p h rfl rfl rfl rfl
          obtain ⟨f, g, h⟩ := h
          clear g
          replace h : EV F f 45 z45 86 [some (rf 2 (0)), some (.inl (x1)), some (.inl (x2)), some (.inl (x3)), some (rf 8 (i31)), some (rf 6 (i25)), some (.inr (.inl (v17))), none, some (.inr (.inl ((v17) * ((x3).toInt64)))), none] [rf 8 (i31)] σ34 (.inl (some (.inr (.inl w))), σ') := h
          replace h := ei_p h rfl rfl rfl rfl
          obtain ⟨f, g, h⟩ := h
          clear g
          replace h : EV F f 45 z45 87 [some (rf 2 (0)), some (.inl (x1)), some (.inl (x2)), some (.inl (x3)), some (rf 8 (i31)), some (rf 6 (i25)), some (.inr (.inl (v17))), none, some (.inr (.inl ((v17) * ((x3).toInt64)))), none] [.inr (.inl (Int64.ofNat 0)), rf 8 (i31)] σ34 (.inl (some (.inr (.inl w))), σ') := h
          replace h := ei_put h rfl
          obtain ⟨ht36, f, g, h⟩ := h
          clear g
          obtain ⟨σ37, e38⟩ : ∃ s, s = m_set σ34 8 (i31) (8) (.inr (.inl (Int64.ofNat 0))) := ⟨_, rfl⟩
          rw [← e38] at h
          have hsσ37 : HS σ37 := by rw [e38]; exact HS_set hsσ34 rfl
          refine ⟨σ37, e38, ?_⟩
          replace h : EV F f 45 z45 90 [some (rf 2 (0)), some (.inl (x1)), some (.inl (x2)), some (.inl (x3)), some (rf 8 (i31)), some (rf 6 (i25)), some (.inr (.inl (v17))), none, some (.inr (.inl ((v17) * ((x3).toInt64)))), none] [] σ37 (.inl (some (.inr (.inl w))), σ') := h
          replace h := ei_p h rfl rfl rfl rfl
          obtain ⟨f, g, h⟩ := h
          clear g
          replace h : EV F f 45 z45 91 [some (rf 2 (0)), some (.inl (x1)), some (.inl (x2)), some (.inl (x3)), some (rf 8 (i31)), some (rf 6 (i25)), some (.inr (.inl (v17))), none, some (.inr (.inl ((v17) * ((x3).toInt64)))), none] [rf 2 (0)] σ37 (.inl (some (.inr (.inl w))), σ') := h
          replace h := ei_get h rfl (HS_g2_1 hsσ37)
          obtain ⟨f, g, h⟩ := h
          clear g
          replace h : EV F f 45 z45 94 [some (rf 2 (0)), some (.inl (x1)), some (.inl (x2)), some (.inl (x3)), some (rf 8 (i31)), some (rf 6 (i25)), some (.inr (.inl (v17))), none, some (.inr (.inl ((v17) * ((x3).toInt64)))), none] [rf 6 (0)] σ37 (.inl (some (.inr (.inl w))), σ') := h
          replace h := bk_I (ei_v (as := []) h rfl rfl rfl) rfl z92_at (Or.inr rfl)
          obtain ⟨v39, σ40, r41, f, g, h⟩ := h
          clear g
          have er41 := ro_run rfl r41
          rw [er41] at h r41
          have p42 := x92 hsσ37 r41
          refine ⟨v39, p42, ?_⟩
          replace h : EV F f 45 z45 97 [some (rf 2 (0)), some (.inl (x1)), some (.inl (x2)), some (.inl (x3)), some (rf 8 (i31)), some (rf 6 (i25)), some (.inr (.inl (v17))), none, some (.inr (.inl ((v17) * ((x3).toInt64)))), none] [.inl (v39)] σ37 (.inl (some (.inr (.inl w))), σ') := h
          replace h := ei_c h rfl rfl rfl
          rcases h with ⟨hp43, f, g, h⟩ | ⟨hp43, f, g, h⟩
          · skip
            replace hp43 : (v39).toInt = (0 : Int) := ic_eq.mp hp43
            refine Or.inl ⟨hp43, ?_⟩
            clear g
            replace h : EV F f 45 z45 105 [some (rf 2 (0)), some (.inl (x1)), some (.inl (x2)), some (.inl (x3)), some (rf 8 (i31)), some (rf 6 (i25)), some (.inr (.inl (v17))), none, some (.inr (.inl ((v17) * ((x3).toInt64)))), none] [] σ37 (.inl (some (.inr (.inl w))), σ') := h
            exact j45_105 hsσ37 h
          · skip
            replace hp43 : ¬ ((v39).toInt = (0 : Int)) := (not_congr ic_eq).mp hp43
            refine Or.inr ⟨hp43, ?_⟩
            clear g
            replace h : EV F f 45 z45 100 [some (rf 2 (0)), some (.inl (x1)), some (.inl (x2)), some (.inl (x3)), some (rf 8 (i31)), some (rf 6 (i25)), some (.inr (.inl (v17))), none, some (.inr (.inl ((v17) * ((x3).toInt64)))), none] [] σ37 (.inl (some (.inr (.inl w))), σ') := h
            replace h := ei_p h rfl rfl rfl rfl
            obtain ⟨f, g, h⟩ := h
            clear g
            replace h : EV F f 45 z45 101 [some (rf 2 (0)), some (.inl (x1)), some (.inl (x2)), some (.inl (x3)), some (rf 8 (i31)), some (rf 6 (i25)), some (.inr (.inl (v17))), none, some (.inr (.inl ((v17) * ((x3).toInt64)))), none] [rf 2 (0)] σ37 (.inl (some (.inr (.inl w))), σ') := h
            replace h := bk_L (ei_v (as := []) h rfl rfl rfl) rfl z46_at rfl
            obtain ⟨v44, σ45, r46, f, g, h⟩ := h
            clear g
            have p47 := x46 hsσ37 r46
            have hsσ45 : HS σ45 := HS_run rfl r46 hsσ37
            refine ⟨v44, σ45, fw_run W46 rfl r46, p47, ?_⟩
            replace h : EV F f 45 z45 104 [some (rf 2 (0)), some (.inl (x1)), some (.inl (x2)), some (.inl (x3)), some (rf 8 (i31)), some (rf 6 (i25)), some (.inr (.inl (v17))), none, some (.inr (.inl ((v17) * ((x3).toInt64)))), none] [.inr (.inl (v44))] σ45 (.inl (some (.inr (.inl w))), σ') := h
            replace h := ei_p h rfl rfl rfl rfl
            obtain ⟨f, g, h⟩ := h
            clear g
            replace h : EV F f 45 z45 105 [some (rf 2 (0)), some (.inl (x1)), some (.inl (x2)), some (.inl (x3)), some (rf 8 (i31)), some (rf 6 (i25)), some (.inr (.inl (v17))), none, some (.inr (.inl ((v17) * ((x3).toInt64)))), none] [] σ45 (.inl (some (.inr (.inl w))), σ') := h
            exact j45_105 hsσ45 h
        · exact absurd (fun z => by cases z) hp16
abbrev L51 : List (Nat × Nat) := []
abbrev w51 : Nat → Nat → Bool := wl L51
def S51 : List Nat := [51]
theorem W51 : fw_S w51 S51 = true := by decide +kernel
def P51 (σ : mS) (x1 : mR) (w : Int32) (σ' : mS) : Prop := ∃ i1, x1 = some (7, i1) ∧ w = ((((Int32.ofInt 100000) * (m_i σ 7 (i1) 2)) + ((Int32.ofInt 50000) * (m_i σ 7 (i1) 3))) + (m_i σ 7 (i1) 4)) ∧ σ' = σ
theorem x51 {σ σ' : mS} {x1 : mR} {w : Int32} (hs : HS σ) (h : ev_run sm_all 51 [.inr (.inr (x1))] σ (.inl (some (.inl w))) σ') : P51 σ x1 w σ' := by
  unfold P51
  obtain ⟨F, f, h⟩ := ei_go h z51_at
  replace h : EV F f 51 z51 0 [some (.inr (.inr (x1)))] [] σ (.inl (some (.inl w)), σ') := h
  replace h := ei_p h rfl rfl rfl rfl
  obtain ⟨f, g, h⟩ := h
  clear g
  replace h : EV F f 51 z51 2 [some (.inr (.inr (x1)))] [.inl (Int32.ofInt 100000)] σ (.inl (some (.inl w)), σ') := h
  replace h := ei_p h rfl rfl rfl rfl
  obtain ⟨f, g, h⟩ := h
  clear g
  replace h : EV F f 51 z51 3 [some (.inr (.inr (x1)))] [.inr (.inr (x1)), .inl (Int32.ofInt 100000)] σ (.inl (some (.inl w)), σ') := h
  obtain ⟨i1, e2⟩ := ei_gp h rfl
  rw [e2] at h
  refine ⟨i1, e2, ?_⟩
  replace h : EV F f 51 z51 3 [some (rf 7 (i1))] [rf 7 (i1), .inl (Int32.ofInt 100000)] σ (.inl (some (.inl w)), σ') := h
  replace h := ei_get h rfl rfl
  obtain ⟨f, g, h⟩ := h
  clear g
  replace h : EV F f 51 z51 6 [some (rf 7 (i1))] [.inl (m_i σ 7 (i1) 2), .inl (Int32.ofInt 100000)] σ (.inl (some (.inl w)), σ') := h
  replace h := ei_p h rfl rfl rfl rfl
  obtain ⟨f, g, h⟩ := h
  clear g
  replace h : EV F f 51 z51 7 [some (rf 7 (i1))] [.inl ((Int32.ofInt 100000) * (m_i σ 7 (i1) 2))] σ (.inl (some (.inl w)), σ') := h
  replace h := ei_p h rfl rfl rfl rfl
  obtain ⟨f, g, h⟩ := h
  clear g
  replace h : EV F f 51 z51 9 [some (rf 7 (i1))] [.inl (Int32.ofInt 50000), .inl ((Int32.ofInt 100000) * (m_i σ 7 (i1) 2))] σ (.inl (some (.inl w)), σ') := h
  replace h := ei_p h rfl rfl rfl rfl
  obtain ⟨f, g, h⟩ := h
  clear g
  replace h : EV F f 51 z51 10 [some (rf 7 (i1))] [rf 7 (i1), .inl (Int32.ofInt 50000), .inl ((Int32.ofInt 100000) * (m_i σ 7 (i1) 2))] σ (.inl (some (.inl w)), σ') := h
  replace h := ei_get h rfl rfl
  obtain ⟨f, g, h⟩ := h
  clear g
  replace h : EV F f 51 z51 13 [some (rf 7 (i1))] [.inl (m_i σ 7 (i1) 3), .inl (Int32.ofInt 50000), .inl ((Int32.ofInt 100000) * (m_i σ 7 (i1) 2))] σ (.inl (some (.inl w)), σ') := h
  replace h := ei_p h rfl rfl rfl rfl
  obtain ⟨f, g, h⟩ := h
  clear g
  replace h : EV F f 51 z51 14 [some (rf 7 (i1))] [.inl ((Int32.ofInt 50000) * (m_i σ 7 (i1) 3)), .inl ((Int32.ofInt 100000) * (m_i σ 7 (i1) 2))] σ (.inl (some (.inl w)), σ') := h
  replace h := ei_p h rfl rfl rfl rfl
  obtain ⟨f, g, h⟩ := h
  clear g
  replace h : EV F f 51 z51 15 [some (rf 7 (i1))] [.inl (((Int32.ofInt 100000) * (m_i σ 7 (i1) 2)) + ((Int32.ofInt 50000) * (m_i σ 7 (i1) 3)))] σ (.inl (some (.inl w)), σ') := h
  replace h := ei_p h rfl rfl rfl rfl
  obtain ⟨f, g, h⟩ := h
  clear g
  replace h : EV F f 51 z51 16 [some (rf 7 (i1))] [rf 7 (i1), .inl (((Int32.ofInt 100000) * (m_i σ 7 (i1) 2)) + ((Int32.ofInt 50000) * (m_i σ 7 (i1) 3)))] σ (.inl (some (.inl w)), σ') := h
  replace h := ei_get h rfl rfl
  obtain ⟨f, g, h⟩ := h
  clear g
  replace h : EV F f 51 z51 19 [some (rf 7 (i1))] [.inl (m_i σ 7 (i1) 4), .inl (((Int32.ofInt 100000) * (m_i σ 7 (i1) 2)) + ((Int32.ofInt 50000) * (m_i σ 7 (i1) 3)))] σ (.inl (some (.inl w)), σ') := h
  replace h := ei_p h rfl rfl rfl rfl
  obtain ⟨f, g, h⟩ := h
  clear g
  replace h : EV F f 51 z51 20 [some (rf 7 (i1))] [.inl ((((Int32.ofInt 100000) * (m_i σ 7 (i1) 2)) + ((Int32.ofInt 50000) * (m_i σ 7 (i1) 3))) + (m_i σ 7 (i1) 4))] σ (.inl (some (.inl w)), σ') := h
  have e := ei_iret h rfl
  cases e
  exact ⟨rfl, rfl⟩
def z52 : mAl := ((yX3_readerAt, cX3_readerAt, 2, (some (.object "NettingHall$Reader")), { frames := 0, cells := 0, slots := 0, locals := 0 }, []), rw_X3_readerAt, false)
theorem z52_at : m_alF[52]? = some z52 := rfl
abbrev L52 : List (Nat × Nat) := []
abbrev w52 : Nat → Nat → Bool := wl L52
def S52 : List Nat := [52]
theorem W52 : fw_S w52 S52 = true := by decide +kernel
def P52 (σ : mS) (x1 : Int32) (w : mR) (σ' : mS) : Prop := (((x1).toInt < (0 : Int) ∧ w = none ∧ σ' = σ) ∨ (¬ ((x1).toInt < (0 : Int)) ∧ (((x1).toInt < (2 : Int) ∧ (0 ≤ (x1).toInt ∧ (x1).toInt < 2) ∧ w = (some (9, (x1).toNatClampNeg)) ∧ σ' = σ) ∨ (¬ ((x1).toInt < (2 : Int)) ∧ w = none ∧ σ' = σ))))
theorem x52 {σ σ' : mS} {x1 : Int32} {w : mR} (hs : HS σ) (h : ev_run sm_all 52 [rf 3 (0), .inl (x1)] σ (.inl (some (.inr (.inr w)))) σ') : P52 σ x1 w σ' := by
  unfold P52
  obtain ⟨F, f, h⟩ := ei_go h z52_at
  replace h : EV F f 52 z52 0 [some (rf 3 (0)), some (.inl (x1))] [] σ (.inl (some (.inr (.inr w))), σ') := h
  replace h := ei_p h rfl rfl rfl rfl
  obtain ⟨f, g, h⟩ := h
  clear g
  replace h : EV F f 52 z52 1 [some (rf 3 (0)), some (.inl (x1))] [.inl (x1)] σ (.inl (some (.inr (.inr w))), σ') := h
  replace h := ei_c h rfl rfl rfl
  rcases h with ⟨hp1, f, g, h⟩ | ⟨hp1, f, g, h⟩
  · skip
    replace hp1 : (x1).toInt < (0 : Int) := ic_lt.mp hp1
    refine Or.inl ⟨hp1, ?_⟩
    clear g
    replace h : EV F f 52 z52 13 [some (rf 3 (0)), some (.inl (x1))] [] σ (.inl (some (.inr (.inr w))), σ') := h
    replace h := ei_p h rfl rfl rfl rfl
    obtain ⟨f, g, h⟩ := h
    clear g
    replace h : EV F f 52 z52 14 [some (rf 3 (0)), some (.inl (x1))] [.inr (.inr none)] σ (.inl (some (.inr (.inr w))), σ') := h
    replace h := ei_p h rfl rfl rfl rfl
    obtain ⟨f, g, h⟩ := h
    clear g
    replace h : EV F f 52 z52 23 [some (rf 3 (0)), some (.inl (x1))] [.inr (.inr none)] σ (.inl (some (.inr (.inr w))), σ') := h
    have e := ei_aret h rfl
    cases e
    exact ⟨rfl, rfl⟩
  · skip
    replace hp1 : ¬ ((x1).toInt < (0 : Int)) := (not_congr ic_lt).mp hp1
    refine Or.inr ⟨hp1, ?_⟩
    clear g
    replace h : EV F f 52 z52 4 [some (rf 3 (0)), some (.inl (x1))] [] σ (.inl (some (.inr (.inr w))), σ') := h
    replace h := ei_p h rfl rfl rfl rfl
    obtain ⟨f, g, h⟩ := h
    clear g
    replace h : EV F f 52 z52 5 [some (rf 3 (0)), some (.inl (x1))] [.inl (x1)] σ (.inl (some (.inr (.inr w))), σ') := h
    replace h := ei_p h rfl rfl rfl rfl
    obtain ⟨f, g, h⟩ := h
    clear g
    replace h : EV F f 52 z52 6 [some (rf 3 (0)), some (.inl (x1))] [rf 3 (0), .inl (x1)] σ (.inl (some (.inr (.inr w))), σ') := h
    replace h := ei_get h rfl (HS_g3_2 hs)
    obtain ⟨f, g, h⟩ := h
    clear g
    replace h : EV F f 52 z52 9 [some (rf 3 (0)), some (.inl (x1))] [rf 19 (0), .inl (x1)] σ (.inl (some (.inr (.inr w))), σ') := h
    replace h := ei_len h rfl (HS_l19_0 hs) ⟨Nat.le_of_ble_eq_true rfl, Nat.le_of_ble_eq_true rfl⟩
    obtain ⟨f, g, h⟩ := h
    clear g
    replace h : EV F f 52 z52 10 [some (rf 3 (0)), some (.inl (x1))] [.inl (Int32.ofInt 2), .inl (x1)] σ (.inl (some (.inr (.inr w))), σ') := h
    replace h := ei_c h rfl rfl rfl
    rcases h with ⟨hp2, f, g, h⟩ | ⟨hp2, f, g, h⟩
    · skip
      replace hp2 : (x1).toInt < (2 : Int) := ic_lt.mp hp2
      refine Or.inl ⟨hp2, ?_⟩
      clear g
      replace h : EV F f 52 z52 17 [some (rf 3 (0)), some (.inl (x1))] [] σ (.inl (some (.inr (.inr w))), σ') := h
      replace h := ei_p h rfl rfl rfl rfl
      obtain ⟨f, g, h⟩ := h
      clear g
      replace h : EV F f 52 z52 18 [some (rf 3 (0)), some (.inl (x1))] [rf 3 (0)] σ (.inl (some (.inr (.inr w))), σ') := h
      replace h := ei_get h rfl (HS_g3_2 hs)
      obtain ⟨f, g, h⟩ := h
      clear g
      replace h : EV F f 52 z52 21 [some (rf 3 (0)), some (.inl (x1))] [rf 19 (0)] σ (.inl (some (.inr (.inr w))), σ') := h
      replace h := ei_p h rfl rfl rfl rfl
      obtain ⟨f, g, h⟩ := h
      clear g
      replace h : EV F f 52 z52 22 [some (rf 3 (0)), some (.inl (x1))] [.inl (x1), rf 19 (0)] σ (.inl (some (.inr (.inr w))), σ') := h
      replace h := ei_ald h rfl (HS_a19 hs)
      obtain ⟨vp3, f, g, h⟩ := h
      clear g
      replace h : EV F f 52 z52 23 [some (rf 3 (0)), some (.inl (x1))] [rf 9 ((x1).toNatClampNeg)] σ (.inl (some (.inr (.inr w))), σ') := h
      refine ⟨HS_v19 hs vp3, ?_⟩
      have e := ei_aret h rfl
      cases e
      exact ⟨rfl, rfl⟩
    · skip
      replace hp2 : ¬ ((x1).toInt < (2 : Int)) := (not_congr ic_lt).mp hp2
      refine Or.inr ⟨hp2, ?_⟩
      clear g
      replace h : EV F f 52 z52 13 [some (rf 3 (0)), some (.inl (x1))] [] σ (.inl (some (.inr (.inr w))), σ') := h
      replace h := ei_p h rfl rfl rfl rfl
      obtain ⟨f, g, h⟩ := h
      clear g
      replace h : EV F f 52 z52 14 [some (rf 3 (0)), some (.inl (x1))] [.inr (.inr none)] σ (.inl (some (.inr (.inr w))), σ') := h
      replace h := ei_p h rfl rfl rfl rfl
      obtain ⟨f, g, h⟩ := h
      clear g
      replace h : EV F f 52 z52 23 [some (rf 3 (0)), some (.inl (x1))] [.inr (.inr none)] σ (.inl (some (.inr (.inr w))), σ') := h
      have e := ei_aret h rfl
      cases e
      exact ⟨rfl, rfl⟩
abbrev L85 : List (Nat × Nat) := [(5, 2), (13, 0)]
abbrev w85 : Nat → Nat → Bool := wl L85
def S85 : List Nat := [51, 78, 80, 81, 82, 83, 85, 99]
theorem W85 : fw_S w85 S85 = true := by decide +kernel
abbrev P85 (σ : mS) (a : Nat) (x1 : mR) (σ' : mS) : Prop := ev_run sm_all 85 [rf 5 a, .inr (.inr x1)] σ (.inl none) σ'
theorem x85 {σ σ' : mS} {a : Nat} {x1 : mR} (_ : HS σ) (h : ev_run sm_all 85 [rf 5 a, .inr (.inr x1)] σ (.inl none) σ') : P85 σ a x1 σ' := h
abbrev L86 : List (Nat × Nat) := []
abbrev w86 : Nat → Nat → Bool := wl L86
def S86 : List Nat := [78, 79, 80, 86]
theorem W86 : fw_S w86 S86 = true := by decide +kernel
abbrev P86 (σ : mS) (a : Nat) (x1 : mR) (x2 : Int32) (w : Int32) (σ' : mS) : Prop := ev_run sm_all 86 [rf 5 a, .inr (.inr x1), .inl x2] σ (.inl (some (.inl w))) σ'
theorem x86 {σ σ' : mS} {a : Nat} {x1 : mR} {x2 : Int32} {w : Int32} (_ : HS σ) (h : ev_run sm_all 86 [rf 5 a, .inr (.inr x1), .inl x2] σ (.inl (some (.inl w))) σ') : P86 σ a x1 x2 w σ' := h
abbrev L78 : List (Nat × Nat) := []
abbrev w78 : Nat → Nat → Bool := wl L78
def S78 : List Nat := [78, 80]
theorem W78 : fw_S w78 S78 = true := by decide +kernel
abbrev P78 (σ : mS) (a : Nat) (x1 : Int32) (w : Int32) (σ' : mS) : Prop := ev_run sm_all 78 [rf 5 a, .inl x1] σ (.inl (some (.inl w))) σ'
theorem x78 {σ σ' : mS} {a : Nat} {x1 : Int32} {w : Int32} (_ : HS σ) (h : ev_run sm_all 78 [rf 5 a, .inl x1] σ (.inl (some (.inl w))) σ') : P78 σ a x1 w σ' := h
abbrev L54 : List (Nat × Nat) := [(3, 5), (13, 0)]
abbrev w54 : Nat → Nat → Bool := wl L54
def S54 : List Nat := [54, 190]
theorem W54 : fw_S w54 S54 = true := by decide +kernel
abbrev P54 (σ : mS) (x1 : Int32) (x2 : Int32) (σ' : mS) : Prop := ev_run sm_all 54 [rf 3 0, .inl x1, .inl x2] σ (.inl none) σ'
theorem x54 {σ σ' : mS} {x1 : Int32} {x2 : Int32} (_ : HS σ) (h : ev_run sm_all 54 [rf 3 0, .inl x1, .inl x2] σ (.inl none) σ') : P54 σ x1 x2 σ' := h
def z53 : mAl := ((yX3_tell, cX3_tell, 4, none, { frames := 3, cells := 0, slots := 0, locals := 70 }, []), rw_X3_tell, false)
theorem z53_at : m_alF[53]? = some z53 := rfl
abbrev L53 : List (Nat × Nat) := [(3, 3), (3, 4), (3, 5), (5, 2), (13, 0)]
abbrev w53 : Nat → Nat → Bool := wl L53
def S53 : List Nat := [51, 53, 54, 78, 79, 80, 81, 82, 83, 85, 86, 99, 190]
theorem W53 : fw_S w53 S53 = true := by decide +kernel
abbrev B53_23 (ih : Int32 → Int32 → mS → mS → Prop) (u2 : Int32) (u3 : Int32) (τ : mS) (σ' : mS) : Prop := (((960 : Int) ≤ (u3).toInt ∧ ∃ σ3, σ3 = m_set τ 3 (0) (4) (.inr (.inr (m_r τ 3 (0) 3))) ∧ ∃ σ6, σ6 = m_set σ3 3 (0) (3) (.inr (.inr (m_r τ 3 (0) 4))) ∧ σ' = σ6) ∨ (¬ ((960 : Int) ≤ (u3).toInt) ∧ (((u2).toInt = (-1 : Int) ∧ ∃ σ10, σ10 = m_set τ 3 (0) (4) (.inr (.inr (m_r τ 3 (0) 3))) ∧ ∃ σ13, σ13 = m_set σ10 3 (0) (3) (.inr (.inr (m_r τ 3 (0) 4))) ∧ σ' = σ13) ∨ (¬ ((u2).toInt = (-1 : Int)) ∧ ∃ i15, m_r τ 3 (0) 3 = some (5, i15) ∧ ∃ v17 σ18, fw_e w78 τ σ18 ∧ P78 τ (i15) (u2) v17 σ18 ∧ ∃ σ22, fw_e w54 σ18 σ22 ∧ P54 σ18 (u2) (v17) σ22 ∧ ∃ i25, m_r σ22 3 (0) 3 = some (5, i25) ∧ ∃ v27 σ28, fw_e w86 σ22 σ28 ∧ P86 σ22 (i25) (m_r σ22 3 (0) 4) (u2) v27 σ28 ∧ ih (v27) ((u3) + Int32.ofInt 1) σ28 σ'))))
def Q53_23 : Nat → Int32 → Int32 → mS → mS → Prop
  | 0 => fun _ _ _ _ => False
  | n + 1 => B53_23  (Q53_23  n)
theorem q53_23 {F : Nat} {σ' : mS} : ∀ N f, f < N → ∀ (u2 : Int32) (u3 : Int32) (y1 : Option mV) (τ : mS), HS τ → EV F f 53 z53 23 [some (rf 3 (0)), y1, some (.inl (u2)), some (.inl (u3))] [] τ (.inl none, σ') → Q53_23  N u2 u3 τ σ' := by
  intro N
  induction N with
  | zero => intro f hf; omega
  | succ N IH =>
    intro f hf0 u2 u3 y1 τ hsτ h
    have hf : f < N + 1 := hf0
    clear hf0
    show B53_23  (Q53_23  N) u2 u3 τ σ'
    replace h := ei_p h rfl rfl rfl rfl
    obtain ⟨f, g, h⟩ := h
    replace hf := Nat.lt_of_lt_of_le g (Nat.le_of_lt_succ hf)
    clear g
    replace h : EV F f 53 z53 24 [some (rf 3 (0)), y1, some (.inl (u2)), some (.inl (u3))] [.inl (u3)] τ (.inl none, σ') := h
    replace h := ei_p h rfl rfl rfl rfl
    obtain ⟨f, g, h⟩ := h
    replace hf := Nat.lt_trans g hf
    clear g
    replace h : EV F f 53 z53 27 [some (rf 3 (0)), y1, some (.inl (u2)), some (.inl (u3))] [.inl (Int32.ofInt 960), .inl (u3)] τ (.inl none, σ') := h
    replace h := ei_c h rfl rfl rfl
    rcases h with ⟨hp1, f, g, h⟩ | ⟨hp1, f, g, h⟩
    · skip
      replace hp1 : (960 : Int) ≤ (u3).toInt := ic_ge.mp hp1
      refine Or.inl ⟨hp1, ?_⟩
      replace hf := Nat.lt_trans g hf
      clear g
      replace h : EV F f 53 z53 67 [some (rf 3 (0)), y1, some (.inl (u2)), some (.inl (u3))] [] τ (.inl none, σ') := h
      replace h := ei_p h rfl rfl rfl rfl
      obtain ⟨f, g, h⟩ := h
      replace hf := Nat.lt_trans g hf
      clear g
      replace h : EV F f 53 z53 68 [some (rf 3 (0)), y1, some (.inl (u2)), some (.inl (u3))] [rf 3 (0)] τ (.inl none, σ') := h
      replace h := ei_get h rfl rfl
      obtain ⟨f, g, h⟩ := h
      replace hf := Nat.lt_trans g hf
      clear g
      replace h : EV F f 53 z53 71 [some (rf 3 (0)), y1, some (.inl (u2)), some (.inl (u3))] [.inr (.inr (m_r τ 3 (0) 4))] τ (.inl none, σ') := h
      replace h := ei_p h rfl rfl rfl rfl
      obtain ⟨f, g, h⟩ := h
      replace hf := Nat.lt_trans g hf
      clear g
      replace h : EV F f 53 z53 72 [some (rf 3 (0)), y1, some (.inl (u2)), some (.inr (.inr (m_r τ 3 (0) 4)))] [] τ (.inl none, σ') := h
      replace h := ei_p h rfl rfl rfl rfl
      obtain ⟨f, g, h⟩ := h
      replace hf := Nat.lt_trans g hf
      clear g
      replace h : EV F f 53 z53 73 [some (rf 3 (0)), y1, some (.inl (u2)), some (.inr (.inr (m_r τ 3 (0) 4)))] [rf 3 (0)] τ (.inl none, σ') := h
      replace h := ei_p h rfl rfl rfl rfl
      obtain ⟨f, g, h⟩ := h
      replace hf := Nat.lt_trans g hf
      clear g
      replace h : EV F f 53 z53 74 [some (rf 3 (0)), y1, some (.inl (u2)), some (.inr (.inr (m_r τ 3 (0) 4)))] [rf 3 (0), rf 3 (0)] τ (.inl none, σ') := h
      replace h := ei_get h rfl rfl
      obtain ⟨f, g, h⟩ := h
      replace hf := Nat.lt_trans g hf
      clear g
      replace h : EV F f 53 z53 77 [some (rf 3 (0)), y1, some (.inl (u2)), some (.inr (.inr (m_r τ 3 (0) 4)))] [.inr (.inr (m_r τ 3 (0) 3)), rf 3 (0)] τ (.inl none, σ') := h
      replace h := ei_put h rfl
      obtain ⟨ht2, f, g, h⟩ := h
      replace hf := Nat.lt_trans g hf
      clear g
      obtain ⟨σ3, e4⟩ : ∃ s, s = m_set τ 3 (0) (4) (.inr (.inr (m_r τ 3 (0) 3))) := ⟨_, rfl⟩
      rw [← e4] at h
      have hsσ3 : HS σ3 := by rw [e4]; exact HS_set hsτ rfl
      refine ⟨σ3, e4, ?_⟩
      replace h : EV F f 53 z53 80 [some (rf 3 (0)), y1, some (.inl (u2)), some (.inr (.inr (m_r τ 3 (0) 4)))] [] σ3 (.inl none, σ') := h
      replace h := ei_p h rfl rfl rfl rfl
      obtain ⟨f, g, h⟩ := h
      replace hf := Nat.lt_trans g hf
      clear g
      replace h : EV F f 53 z53 81 [some (rf 3 (0)), y1, some (.inl (u2)), some (.inr (.inr (m_r τ 3 (0) 4)))] [rf 3 (0)] σ3 (.inl none, σ') := h
      replace h := ei_p h rfl rfl rfl rfl
      obtain ⟨f, g, h⟩ := h
      replace hf := Nat.lt_trans g hf
      clear g
      replace h : EV F f 53 z53 82 [some (rf 3 (0)), y1, some (.inl (u2)), some (.inr (.inr (m_r τ 3 (0) 4)))] [.inr (.inr (m_r τ 3 (0) 4)), rf 3 (0)] σ3 (.inl none, σ') := h
      replace h := ei_put h rfl
      obtain ⟨ht5, f, g, h⟩ := h
      replace hf := Nat.lt_trans g hf
      clear g
      obtain ⟨σ6, e7⟩ : ∃ s, s = m_set σ3 3 (0) (3) (.inr (.inr (m_r τ 3 (0) 4))) := ⟨_, rfl⟩
      rw [← e7] at h
      have hsσ6 : HS σ6 := by rw [e7]; exact HS_set hsσ3 rfl
      refine ⟨σ6, e7, ?_⟩
      replace h : EV F f 53 z53 85 [some (rf 3 (0)), y1, some (.inl (u2)), some (.inr (.inr (m_r τ 3 (0) 4)))] [] σ6 (.inl none, σ') := h
      have e := ei_ret h rfl
      cases e
      exact rfl
    · skip
      replace hp1 : ¬ ((960 : Int) ≤ (u3).toInt) := (not_congr ic_ge).mp hp1
      refine Or.inr ⟨hp1, ?_⟩
      replace hf := Nat.lt_trans g hf
      clear g
      replace h : EV F f 53 z53 30 [some (rf 3 (0)), y1, some (.inl (u2)), some (.inl (u3))] [] τ (.inl none, σ') := h
      replace h := ei_p h rfl rfl rfl rfl
      obtain ⟨f, g, h⟩ := h
      replace hf := Nat.lt_trans g hf
      clear g
      replace h : EV F f 53 z53 31 [some (rf 3 (0)), y1, some (.inl (u2)), some (.inl (u3))] [.inl (u2)] τ (.inl none, σ') := h
      replace h := ei_p h rfl rfl rfl rfl
      obtain ⟨f, g, h⟩ := h
      replace hf := Nat.lt_trans g hf
      clear g
      replace h : EV F f 53 z53 32 [some (rf 3 (0)), y1, some (.inl (u2)), some (.inl (u3))] [.inl (Int32.ofInt (-1)), .inl (u2)] τ (.inl none, σ') := h
      replace h := ei_c h rfl rfl rfl
      rcases h with ⟨hp8, f, g, h⟩ | ⟨hp8, f, g, h⟩
      · skip
        replace hp8 : (u2).toInt = (-1 : Int) := ic_eq.mp hp8
        refine Or.inl ⟨hp8, ?_⟩
        replace hf := Nat.lt_trans g hf
        clear g
        replace h : EV F f 53 z53 67 [some (rf 3 (0)), y1, some (.inl (u2)), some (.inl (u3))] [] τ (.inl none, σ') := h
        replace h := ei_p h rfl rfl rfl rfl
        obtain ⟨f, g, h⟩ := h
        replace hf := Nat.lt_trans g hf
        clear g
        replace h : EV F f 53 z53 68 [some (rf 3 (0)), y1, some (.inl (u2)), some (.inl (u3))] [rf 3 (0)] τ (.inl none, σ') := h
        replace h := ei_get h rfl rfl
        obtain ⟨f, g, h⟩ := h
        replace hf := Nat.lt_trans g hf
        clear g
        replace h : EV F f 53 z53 71 [some (rf 3 (0)), y1, some (.inl (u2)), some (.inl (u3))] [.inr (.inr (m_r τ 3 (0) 4))] τ (.inl none, σ') := h
        replace h := ei_p h rfl rfl rfl rfl
        obtain ⟨f, g, h⟩ := h
        replace hf := Nat.lt_trans g hf
        clear g
        replace h : EV F f 53 z53 72 [some (rf 3 (0)), y1, some (.inl (u2)), some (.inr (.inr (m_r τ 3 (0) 4)))] [] τ (.inl none, σ') := h
        replace h := ei_p h rfl rfl rfl rfl
        obtain ⟨f, g, h⟩ := h
        replace hf := Nat.lt_trans g hf
        clear g
        replace h : EV F f 53 z53 73 [some (rf 3 (0)), y1, some (.inl (u2)), some (.inr (.inr (m_r τ 3 (0) 4)))] [rf 3 (0)] τ (.inl none, σ') := h
        replace h := ei_p h rfl rfl rfl rfl
        obtain ⟨f, g, h⟩ := h
        replace hf := Nat.lt_trans g hf
        clear g
        replace h : EV F f 53 z53 74 [some (rf 3 (0)), y1, some (.inl (u2)), some (.inr (.inr (m_r τ 3 (0) 4)))] [rf 3 (0), rf 3 (0)] τ (.inl none, σ') := h
        replace h := ei_get h rfl rfl
        obtain ⟨f, g, h⟩ := h
        replace hf := Nat.lt_trans g hf
        clear g
        replace h : EV F f 53 z53 77 [some (rf 3 (0)), y1, some (.inl (u2)), some (.inr (.inr (m_r τ 3 (0) 4)))] [.inr (.inr (m_r τ 3 (0) 3)), rf 3 (0)] τ (.inl none, σ') := h
        replace h := ei_put h rfl
        obtain ⟨ht9, f, g, h⟩ := h
        replace hf := Nat.lt_trans g hf
        clear g
        obtain ⟨σ10, e11⟩ : ∃ s, s = m_set τ 3 (0) (4) (.inr (.inr (m_r τ 3 (0) 3))) := ⟨_, rfl⟩
        rw [← e11] at h
        have hsσ10 : HS σ10 := by rw [e11]; exact HS_set hsτ rfl
        refine ⟨σ10, e11, ?_⟩
        replace h : EV F f 53 z53 80 [some (rf 3 (0)), y1, some (.inl (u2)), some (.inr (.inr (m_r τ 3 (0) 4)))] [] σ10 (.inl none, σ') := h
        replace h := ei_p h rfl rfl rfl rfl
        obtain ⟨f, g, h⟩ := h
        replace hf := Nat.lt_trans g hf
        clear g
        replace h : EV F f 53 z53 81 [some (rf 3 (0)), y1, some (.inl (u2)), some (.inr (.inr (m_r τ 3 (0) 4)))] [rf 3 (0)] σ10 (.inl none, σ') := h
        replace h := ei_p h rfl rfl rfl rfl
        obtain ⟨f, g, h⟩ := h
        replace hf := Nat.lt_trans g hf
        clear g
        replace h : EV F f 53 z53 82 [some (rf 3 (0)), y1, some (.inl (u2)), some (.inr (.inr (m_r τ 3 (0) 4)))] [.inr (.inr (m_r τ 3 (0) 4)), rf 3 (0)] σ10 (.inl none, σ') := h
        replace h := ei_put h rfl
        obtain ⟨ht12, f, g, h⟩ := h
        replace hf := Nat.lt_trans g hf
        clear g
        obtain ⟨σ13, e14⟩ : ∃ s, s = m_set σ10 3 (0) (3) (.inr (.inr (m_r τ 3 (0) 4))) := ⟨_, rfl⟩
        rw [← e14] at h
        have hsσ13 : HS σ13 := by rw [e14]; exact HS_set hsσ10 rfl
        refine ⟨σ13, e14, ?_⟩
        replace h : EV F f 53 z53 85 [some (rf 3 (0)), y1, some (.inl (u2)), some (.inr (.inr (m_r τ 3 (0) 4)))] [] σ13 (.inl none, σ') := h
        have e := ei_ret h rfl
        cases e
        exact rfl
      · skip
        replace hp8 : ¬ ((u2).toInt = (-1 : Int)) := (not_congr ic_eq).mp hp8
        refine Or.inr ⟨hp8, ?_⟩
        replace hf := Nat.lt_trans g hf
        clear g
        replace h : EV F f 53 z53 35 [some (rf 3 (0)), y1, some (.inl (u2)), some (.inl (u3))] [] τ (.inl none, σ') := h
        replace h := ei_p h rfl rfl rfl rfl
        obtain ⟨f, g, h⟩ := h
        replace hf := Nat.lt_trans g hf
        clear g
        replace h : EV F f 53 z53 36 [some (rf 3 (0)), y1, some (.inl (u2)), some (.inl (u3))] [rf 3 (0)] τ (.inl none, σ') := h
        replace h := ei_p h rfl rfl rfl rfl
        obtain ⟨f, g, h⟩ := h
        replace hf := Nat.lt_trans g hf
        clear g
        replace h : EV F f 53 z53 37 [some (rf 3 (0)), y1, some (.inl (u2)), some (.inl (u3))] [.inl (u2), rf 3 (0)] τ (.inl none, σ') := h
        replace h := ei_p h rfl rfl rfl rfl
        obtain ⟨f, g, h⟩ := h
        replace hf := Nat.lt_trans g hf
        clear g
        replace h : EV F f 53 z53 38 [some (rf 3 (0)), y1, some (.inl (u2)), some (.inl (u3))] [rf 3 (0), .inl (u2), rf 3 (0)] τ (.inl none, σ') := h
        replace h := ei_get h rfl rfl
        obtain ⟨f, g, h⟩ := h
        replace hf := Nat.lt_trans g hf
        clear g
        replace h : EV F f 53 z53 41 [some (rf 3 (0)), y1, some (.inl (u2)), some (.inl (u3))] [.inr (.inr (m_r τ 3 (0) 3)), .inl (u2), rf 3 (0)] τ (.inl none, σ') := h
        replace h := ei_p h rfl rfl rfl rfl
        obtain ⟨f, g, h⟩ := h
        replace hf := Nat.lt_trans g hf
        clear g
        replace h : EV F f 53 z53 42 [some (rf 3 (0)), y1, some (.inl (u2)), some (.inl (u3))] [.inl (u2), .inr (.inr (m_r τ 3 (0) 3)), .inl (u2), rf 3 (0)] τ (.inl none, σ') := h
        obtain ⟨i15, e16⟩ := ei_vp (as := [.inl (u2)]) h rfl rfl
        rw [e16] at h
        refine ⟨i15, e16, ?_⟩
        replace h : EV F f 53 z53 42 [some (rf 3 (0)), y1, some (.inl (u2)), some (.inl (u3))] [.inl (u2), rf 5 (i15), .inl (u2), rf 3 (0)] τ (.inl none, σ') := h
        replace h := bk_I (ei_v (as := [.inl (u2)]) h rfl rfl rfl) rfl z78_at (Or.inl rfl)
        obtain ⟨v17, σ18, r19, f, g, h⟩ := h
        replace hf := Nat.lt_trans g hf
        clear g
        have p20 := x78 hsτ r19
        have hsσ18 : HS σ18 := HS_run rfl r19 hsτ
        refine ⟨v17, σ18, fw_run W78 rfl r19, p20, ?_⟩
        replace h : EV F f 53 z53 45 [some (rf 3 (0)), y1, some (.inl (u2)), some (.inl (u3))] [.inl (v17), .inl (u2), rf 3 (0)] σ18 (.inl none, σ') := h
        replace h := bk_0 (ei_v (as := [.inl (v17), .inl (u2)]) h rfl rfl rfl) rfl z54_at rfl
        obtain ⟨σ22, r23, f, g, h⟩ := h
        replace hf := Nat.lt_trans g hf
        clear g
        have p24 := x54 hsσ18 r23
        have hsσ22 : HS σ22 := HS_run rfl r23 hsσ18
        refine ⟨σ22, fw_run W54 rfl r23, p24, ?_⟩
        replace h : EV F f 53 z53 48 [some (rf 3 (0)), y1, some (.inl (u2)), some (.inl (u3))] [] σ22 (.inl none, σ') := h
        replace h := ei_p h rfl rfl rfl rfl
        obtain ⟨f, g, h⟩ := h
        replace hf := Nat.lt_trans g hf
        clear g
        replace h : EV F f 53 z53 49 [some (rf 3 (0)), y1, some (.inl (u2)), some (.inl (u3))] [rf 3 (0)] σ22 (.inl none, σ') := h
        replace h := ei_get h rfl rfl
        obtain ⟨f, g, h⟩ := h
        replace hf := Nat.lt_trans g hf
        clear g
        replace h : EV F f 53 z53 52 [some (rf 3 (0)), y1, some (.inl (u2)), some (.inl (u3))] [.inr (.inr (m_r σ22 3 (0) 3))] σ22 (.inl none, σ') := h
        replace h := ei_p h rfl rfl rfl rfl
        obtain ⟨f, g, h⟩ := h
        replace hf := Nat.lt_trans g hf
        clear g
        replace h : EV F f 53 z53 53 [some (rf 3 (0)), y1, some (.inl (u2)), some (.inl (u3))] [rf 3 (0), .inr (.inr (m_r σ22 3 (0) 3))] σ22 (.inl none, σ') := h
        replace h := ei_get h rfl rfl
        obtain ⟨f, g, h⟩ := h
        replace hf := Nat.lt_trans g hf
        clear g
        replace h : EV F f 53 z53 56 [some (rf 3 (0)), y1, some (.inl (u2)), some (.inl (u3))] [.inr (.inr (m_r σ22 3 (0) 4)), .inr (.inr (m_r σ22 3 (0) 3))] σ22 (.inl none, σ') := h
        replace h := ei_p h rfl rfl rfl rfl
        obtain ⟨f, g, h⟩ := h
        replace hf := Nat.lt_trans g hf
        clear g
        replace h : EV F f 53 z53 57 [some (rf 3 (0)), y1, some (.inl (u2)), some (.inl (u3))] [.inl (u2), .inr (.inr (m_r σ22 3 (0) 4)), .inr (.inr (m_r σ22 3 (0) 3))] σ22 (.inl none, σ') := h
        obtain ⟨i25, e26⟩ := ei_vp (as := [.inl (u2), .inr (.inr (m_r σ22 3 (0) 4))]) h rfl rfl
        rw [e26] at h
        refine ⟨i25, e26, ?_⟩
        replace h : EV F f 53 z53 57 [some (rf 3 (0)), y1, some (.inl (u2)), some (.inl (u3))] [.inl (u2), .inr (.inr (m_r σ22 3 (0) 4)), rf 5 (i25)] σ22 (.inl none, σ') := h
        replace h := bk_I (ei_v (as := [.inl (u2), .inr (.inr (m_r σ22 3 (0) 4))]) h rfl rfl rfl) rfl z86_at (Or.inl rfl)
        obtain ⟨v27, σ28, r29, f, g, h⟩ := h
        replace hf := Nat.lt_trans g hf
        clear g
        have p30 := x86 hsσ22 r29
        have hsσ28 : HS σ28 := HS_run rfl r29 hsσ22
        refine ⟨v27, σ28, fw_run W86 rfl r29, p30, ?_⟩
        replace h : EV F f 53 z53 60 [some (rf 3 (0)), y1, some (.inl (u2)), some (.inl (u3))] [.inl (v27)] σ28 (.inl none, σ') := h
        replace h := ei_p h rfl rfl rfl rfl
        obtain ⟨f, g, h⟩ := h
        replace hf := Nat.lt_trans g hf
        clear g
        replace h : EV F f 53 z53 61 (m_sto [some (rf 3 (0)), y1, some (.inl (u2)), some (.inl (u3))] 2 (.inl (v27))) [] σ28 (.inl none, σ') := h
        obtain ⟨y_31, e32⟩ := sto_ex [some (rf 3 (0)), y1, some (.inl (u2)), some (.inl (u3))] 2 (.inl (v27)) (by decide)
        rw [e32] at h
        replace h : EV F f 53 z53 61 [some (rf 3 (0)), y_31, some (.inl (v27)), some (.inl (u3))] [] σ28 (.inl none, σ') := h
        replace h := ei_p h rfl rfl rfl rfl
        obtain ⟨f, g, h⟩ := h
        replace hf := Nat.lt_trans g hf
        clear g
        replace h : EV F f 53 z53 64 [some (rf 3 (0)), y_31, some (.inl (v27)), some (.inl ((u3) + Int32.ofInt 1))] [] σ28 (.inl none, σ') := h
        replace h := ei_p h rfl rfl rfl rfl
        obtain ⟨f, g, h⟩ := h
        replace hf := Nat.lt_trans g hf
        clear g
        replace h : EV F f 53 z53 23 [some (rf 3 (0)), y_31, some (.inl (v27)), some (.inl ((u3) + Int32.ofInt 1))] [] σ28 (.inl none, σ') := h
        exact IH f hf (v27) ((u3) + Int32.ofInt 1) y_31 σ28 hsσ28 h
def P53 (σ : mS) (x1 : mR) (σ' : mS) : Prop := ∃ i1, m_r σ 3 (0) 3 = some (5, i1) ∧ ∃ σ4, fw_e w85 σ σ4 ∧ P85 σ (i1) (x1) σ4 ∧ ∃ i7, m_r σ4 3 (0) 3 = some (5, i7) ∧ ∃ v9 σ10, fw_e w86 σ4 σ10 ∧ P86 σ4 (i7) (m_r σ4 3 (0) 4) (Int32.ofInt (-1)) v9 σ10 ∧ ∃ n, Q53_23  n (v9) (Int32.ofInt 0) σ10 σ'
theorem x53 {σ σ' : mS} {x1 : mR} (hs : HS σ) (h : ev_run sm_all 53 [rf 3 (0), .inr (.inr (x1))] σ (.inl none) σ') : P53 σ x1 σ' := by
  unfold P53
  obtain ⟨F, f, h⟩ := ei_go h z53_at
  replace h : EV F f 53 z53 0 [some (rf 3 (0)), some (.inr (.inr (x1))), none, none] [] σ (.inl none, σ') := h
  replace h := ei_p h rfl rfl rfl rfl
  obtain ⟨f, g, h⟩ := h
  clear g
  replace h : EV F f 53 z53 1 [some (rf 3 (0)), some (.inr (.inr (x1))), none, none] [rf 3 (0)] σ (.inl none, σ') := h
  replace h := ei_get h rfl rfl
  obtain ⟨f, g, h⟩ := h
  clear g
  replace h : EV F f 53 z53 4 [some (rf 3 (0)), some (.inr (.inr (x1))), none, none] [.inr (.inr (m_r σ 3 (0) 3))] σ (.inl none, σ') := h
  replace h := ei_p h rfl rfl rfl rfl
  obtain ⟨f, g, h⟩ := h
  clear g
  replace h : EV F f 53 z53 5 [some (rf 3 (0)), some (.inr (.inr (x1))), none, none] [.inr (.inr (x1)), .inr (.inr (m_r σ 3 (0) 3))] σ (.inl none, σ') := h
  obtain ⟨i1, e2⟩ := ei_vp (as := [.inr (.inr (x1))]) h rfl rfl
  rw [e2] at h
  refine ⟨i1, e2, ?_⟩
  replace h : EV F f 53 z53 5 [some (rf 3 (0)), some (.inr (.inr (x1))), none, none] [.inr (.inr (x1)), rf 5 (i1)] σ (.inl none, σ') := h
  replace h := bk_0 (ei_v (as := [.inr (.inr (x1))]) h rfl rfl rfl) rfl z85_at rfl
  obtain ⟨σ4, r5, f, g, h⟩ := h
  clear g
  have p6 := x85 hs r5
  have hsσ4 : HS σ4 := HS_run rfl r5 hs
  refine ⟨σ4, fw_run W85 rfl r5, p6, ?_⟩
  replace h : EV F f 53 z53 8 [some (rf 3 (0)), some (.inr (.inr (x1))), none, none] [] σ4 (.inl none, σ') := h
  replace h := ei_p h rfl rfl rfl rfl
  obtain ⟨f, g, h⟩ := h
  clear g
  replace h : EV F f 53 z53 9 [some (rf 3 (0)), some (.inr (.inr (x1))), none, none] [rf 3 (0)] σ4 (.inl none, σ') := h
  replace h := ei_get h rfl rfl
  obtain ⟨f, g, h⟩ := h
  clear g
  replace h : EV F f 53 z53 12 [some (rf 3 (0)), some (.inr (.inr (x1))), none, none] [.inr (.inr (m_r σ4 3 (0) 3))] σ4 (.inl none, σ') := h
  replace h := ei_p h rfl rfl rfl rfl
  obtain ⟨f, g, h⟩ := h
  clear g
  replace h : EV F f 53 z53 13 [some (rf 3 (0)), some (.inr (.inr (x1))), none, none] [rf 3 (0), .inr (.inr (m_r σ4 3 (0) 3))] σ4 (.inl none, σ') := h
  replace h := ei_get h rfl rfl
  obtain ⟨f, g, h⟩ := h
  clear g
  replace h : EV F f 53 z53 16 [some (rf 3 (0)), some (.inr (.inr (x1))), none, none] [.inr (.inr (m_r σ4 3 (0) 4)), .inr (.inr (m_r σ4 3 (0) 3))] σ4 (.inl none, σ') := h
  replace h := ei_p h rfl rfl rfl rfl
  obtain ⟨f, g, h⟩ := h
  clear g
  replace h : EV F f 53 z53 17 [some (rf 3 (0)), some (.inr (.inr (x1))), none, none] [.inl (Int32.ofInt (-1)), .inr (.inr (m_r σ4 3 (0) 4)), .inr (.inr (m_r σ4 3 (0) 3))] σ4 (.inl none, σ') := h
  obtain ⟨i7, e8⟩ := ei_vp (as := [.inl (Int32.ofInt (-1)), .inr (.inr (m_r σ4 3 (0) 4))]) h rfl rfl
  rw [e8] at h
  refine ⟨i7, e8, ?_⟩
  replace h : EV F f 53 z53 17 [some (rf 3 (0)), some (.inr (.inr (x1))), none, none] [.inl (Int32.ofInt (-1)), .inr (.inr (m_r σ4 3 (0) 4)), rf 5 (i7)] σ4 (.inl none, σ') := h
  replace h := bk_I (ei_v (as := [.inl (Int32.ofInt (-1)), .inr (.inr (m_r σ4 3 (0) 4))]) h rfl rfl rfl) rfl z86_at (Or.inl rfl)
  obtain ⟨v9, σ10, r11, f, g, h⟩ := h
  clear g
  have p12 := x86 hsσ4 r11
  have hsσ10 : HS σ10 := HS_run rfl r11 hsσ4
  refine ⟨v9, σ10, fw_run W86 rfl r11, p12, ?_⟩
  replace h : EV F f 53 z53 20 [some (rf 3 (0)), some (.inr (.inr (x1))), none, none] [.inl (v9)] σ10 (.inl none, σ') := h
  replace h := ei_p h rfl rfl rfl rfl
  obtain ⟨f, g, h⟩ := h
  clear g
  replace h : EV F f 53 z53 21 [some (rf 3 (0)), some (.inr (.inr (x1))), some (.inl (v9)), none] [] σ10 (.inl none, σ') := h
  replace h := ei_p h rfl rfl rfl rfl
  obtain ⟨f, g, h⟩ := h
  clear g
  replace h : EV F f 53 z53 22 [some (rf 3 (0)), some (.inr (.inr (x1))), some (.inl (v9)), none] [.inl (Int32.ofInt 0)] σ10 (.inl none, σ') := h
  replace h := ei_p h rfl rfl rfl rfl
  obtain ⟨f, g, h⟩ := h
  clear g
  replace h : EV F f 53 z53 23 [some (rf 3 (0)), some (.inr (.inr (x1))), some (.inl (v9)), some (.inl (Int32.ofInt 0))] [] σ10 (.inl none, σ') := h
  exact ⟨f + 1, q53_23 (f + 1) f (Nat.lt_succ_self f) (v9) (Int32.ofInt 0) _ σ10 hsσ10 h⟩
abbrev L55 : List (Nat × Nat) := [(5, 2), (9, 1), (13, 0)]
abbrev w55 : Nat → Nat → Bool := wl L55
def S55 : List Nat := [55, 80, 81, 82, 83, 190]
theorem W55 : fw_S w55 S55 = true := by decide +kernel
abbrev P55 (σ : mS) (x1 : mR) (w : Int32) (σ' : mS) : Prop := ev_run sm_all 55 [rf 3 0, .inr (.inr x1)] σ (.inl (some (.inl w))) σ'
theorem x55 {σ σ' : mS} {x1 : mR} {w : Int32} (_ : HS σ) (h : ev_run sm_all 55 [rf 3 0, .inr (.inr x1)] σ (.inl (some (.inl w))) σ') : P55 σ x1 w σ' := h
def z56 : mAl := ((yX3_loseNext, cX3_loseNext, 2, (some .int), { frames := 0, cells := 0, slots := 0, locals := 0 }, []), rw_X3_loseNext, false)
theorem z56_at : m_alF[56]? = some z56 := rfl
abbrev L56 : List (Nat × Nat) := [(9, 1)]
abbrev w56 : Nat → Nat → Bool := wl L56
def S56 : List Nat := [56]
theorem W56 : fw_S w56 S56 = true := by decide +kernel
def P56 (σ : mS) (x1 : mR) (w : Int32) (σ' : mS) : Prop := ∃ i1, x1 = some (9, i1) ∧ ∃ σ4, σ4 = m_set σ 9 (i1) (1) (.inl ((m_i σ 9 (i1) 1) + (Int32.ofInt 1))) ∧ w = ((m_i σ4 3 (0) 5) - (m_i σ4 9 (i1) 1)) ∧ σ' = σ4
theorem x56 {σ σ' : mS} {x1 : mR} {w : Int32} (hs : HS σ) (h : ev_run sm_all 56 [rf 3 (0), .inr (.inr (x1))] σ (.inl (some (.inl w))) σ') : P56 σ x1 w σ' := by
  unfold P56
  obtain ⟨F, f, h⟩ := ei_go h z56_at
  replace h : EV F f 56 z56 0 [some (rf 3 (0)), some (.inr (.inr (x1)))] [] σ (.inl (some (.inl w)), σ') := h
  replace h := ei_p h rfl rfl rfl rfl
  obtain ⟨f, g, h⟩ := h
  clear g
  replace h : EV F f 56 z56 1 [some (rf 3 (0)), some (.inr (.inr (x1)))] [.inr (.inr (x1))] σ (.inl (some (.inl w)), σ') := h
  replace h := ei_p h rfl rfl rfl rfl
  obtain ⟨f, g, h⟩ := h
  clear g
  replace h : EV F f 56 z56 2 [some (rf 3 (0)), some (.inr (.inr (x1)))] [.inr (.inr (x1)), .inr (.inr (x1))] σ (.inl (some (.inl w)), σ') := h
  obtain ⟨i1, e2⟩ := ei_gp h rfl
  rw [e2] at h
  refine ⟨i1, e2, ?_⟩
  replace h : EV F f 56 z56 2 [some (rf 3 (0)), some (rf 9 (i1))] [rf 9 (i1), rf 9 (i1)] σ (.inl (some (.inl w)), σ') := h
  replace h := ei_get h rfl rfl
  obtain ⟨f, g, h⟩ := h
  clear g
  replace h : EV F f 56 z56 5 [some (rf 3 (0)), some (rf 9 (i1))] [.inl (m_i σ 9 (i1) 1), rf 9 (i1)] σ (.inl (some (.inl w)), σ') := h
  replace h := ei_p h rfl rfl rfl rfl
  obtain ⟨f, g, h⟩ := h
  clear g
  replace h : EV F f 56 z56 6 [some (rf 3 (0)), some (rf 9 (i1))] [.inl (Int32.ofInt 1), .inl (m_i σ 9 (i1) 1), rf 9 (i1)] σ (.inl (some (.inl w)), σ') := h
  replace h := ei_p h rfl rfl rfl rfl
  obtain ⟨f, g, h⟩ := h
  clear g
  replace h : EV F f 56 z56 7 [some (rf 3 (0)), some (rf 9 (i1))] [.inl ((m_i σ 9 (i1) 1) + (Int32.ofInt 1)), rf 9 (i1)] σ (.inl (some (.inl w)), σ') := h
  replace h := ei_put h rfl
  obtain ⟨ht3, f, g, h⟩ := h
  clear g
  obtain ⟨σ4, e5⟩ : ∃ s, s = m_set σ 9 (i1) (1) (.inl ((m_i σ 9 (i1) 1) + (Int32.ofInt 1))) := ⟨_, rfl⟩
  rw [← e5] at h
  have hsσ4 : HS σ4 := by rw [e5]; exact HS_set hs rfl
  refine ⟨σ4, e5, ?_⟩
  replace h : EV F f 56 z56 10 [some (rf 3 (0)), some (rf 9 (i1))] [] σ4 (.inl (some (.inl w)), σ') := h
  replace h := ei_p h rfl rfl rfl rfl
  obtain ⟨f, g, h⟩ := h
  clear g
  replace h : EV F f 56 z56 11 [some (rf 3 (0)), some (rf 9 (i1))] [rf 3 (0)] σ4 (.inl (some (.inl w)), σ') := h
  replace h := ei_get h rfl rfl
  obtain ⟨f, g, h⟩ := h
  clear g
  replace h : EV F f 56 z56 14 [some (rf 3 (0)), some (rf 9 (i1))] [.inl (m_i σ4 3 (0) 5)] σ4 (.inl (some (.inl w)), σ') := h
  replace h := ei_p h rfl rfl rfl rfl
  obtain ⟨f, g, h⟩ := h
  clear g
  replace h : EV F f 56 z56 15 [some (rf 3 (0)), some (rf 9 (i1))] [rf 9 (i1), .inl (m_i σ4 3 (0) 5)] σ4 (.inl (some (.inl w)), σ') := h
  replace h := ei_get h rfl rfl
  obtain ⟨f, g, h⟩ := h
  clear g
  replace h : EV F f 56 z56 18 [some (rf 3 (0)), some (rf 9 (i1))] [.inl (m_i σ4 9 (i1) 1), .inl (m_i σ4 3 (0) 5)] σ4 (.inl (some (.inl w)), σ') := h
  replace h := ei_p h rfl rfl rfl rfl
  obtain ⟨f, g, h⟩ := h
  clear g
  replace h : EV F f 56 z56 19 [some (rf 3 (0)), some (rf 9 (i1))] [.inl ((m_i σ4 3 (0) 5) - (m_i σ4 9 (i1) 1))] σ4 (.inl (some (.inl w)), σ') := h
  have e := ei_iret h rfl
  cases e
  exact ⟨rfl, rfl⟩
abbrev L57 : List (Nat × Nat) := [(5, 2), (9, 1), (13, 0)]
abbrev w57 : Nat → Nat → Bool := wl L57
def S57 : List Nat := [57, 84]
theorem W57 : fw_S w57 S57 = true := by decide +kernel
abbrev P57 (σ : mS) (x1 : mR) (w : Int32) (σ' : mS) : Prop := ev_run sm_all 57 [rf 3 0, .inr (.inr x1)] σ (.inl (some (.inl w))) σ'
theorem x57 {σ σ' : mS} {x1 : mR} {w : Int32} (_ : HS σ) (h : ev_run sm_all 57 [rf 3 0, .inr (.inr x1)] σ (.inl (some (.inl w))) σ') : P57 σ x1 w σ' := h
def z113 : mAl := ((yX8_isTooFar, cX8_isTooFar, 2, (some .boolean), { frames := 1, cells := 0, slots := 0, locals := 23 }, []), rw_X8_isTooFar, false)
theorem z113_at : m_alF[113]? = some z113 := rfl
def J113_42 (σ : mS) (w : Int32) : Prop := w = (Int32.ofInt 0)
theorem j113_42 {F f : Nat} {σ σ' : mS} {y0 : Option mV} {y1 : Option mV} {w : Int32} (hs : HS σ) (h : EV F f 113 z113 42 [y0, y1] [] σ (.inl (some (.inl w)), σ')) : J113_42 σ w := by
  unfold J113_42
  replace h := ei_p h rfl rfl rfl rfl
  obtain ⟨f, g, h⟩ := h
  clear g
  replace h : EV F f 113 z113 43 [y0, y1] [.inl (Int32.ofInt 0)] σ (.inl (some (.inl w)), σ') := h
  have e := ei_iret h rfl
  cases e
  exact rfl
def P113 (σ : mS) (a : Nat) (x1 : Int32) (w : Int32) : Prop := (((m_i σ 8 (a) 4).toInt ≤ (0 : Int) ∧ J113_42 σ w) ∨ (¬ ((m_i σ 8 (a) 4).toInt ≤ (0 : Int)) ∧ (((m_i σ 8 (a) 3).toInt ≤ (0 : Int) ∧ J113_42 σ w) ∨ (¬ ((m_i σ 8 (a) 3).toInt ≤ (0 : Int)) ∧ (((jabs ((x1) - (m_i σ 8 (a) 3))).toInt ≤ (((m_i σ 8 (a) 3) * (m_i σ 8 (a) 4)) / (Int32.ofInt 100)).toInt ∧ J113_42 σ w) ∨ (¬ ((jabs ((x1) - (m_i σ 8 (a) 3))).toInt ≤ (((m_i σ 8 (a) 3) * (m_i σ 8 (a) 4)) / (Int32.ofInt 100)).toInt) ∧ w = (Int32.ofInt 1)))))))
theorem x113 {σ σ' : mS} {a : Nat} {x1 : Int32} {w : Int32} (hs : HS σ) (h : ev_run sm_all 113 [rf 8 (a), .inl (x1)] σ (.inl (some (.inl w))) σ') : P113 σ a x1 w := by
  unfold P113
  obtain ⟨F, f, h⟩ := ei_go h z113_at
  replace h : EV F f 113 z113 0 [some (rf 8 (a)), some (.inl (x1))] [] σ (.inl (some (.inl w)), σ') := h
  replace h := ei_p h rfl rfl rfl rfl
  obtain ⟨f, g, h⟩ := h
  clear g
  replace h : EV F f 113 z113 1 [some (rf 8 (a)), some (.inl (x1))] [rf 8 (a)] σ (.inl (some (.inl w)), σ') := h
  replace h := ei_get h rfl rfl
  obtain ⟨f, g, h⟩ := h
  clear g
  replace h : EV F f 113 z113 4 [some (rf 8 (a)), some (.inl (x1))] [.inl (m_i σ 8 (a) 4)] σ (.inl (some (.inl w)), σ') := h
  replace h := ei_c h rfl rfl rfl
  rcases h with ⟨hp1, f, g, h⟩ | ⟨hp1, f, g, h⟩
  · skip
    replace hp1 : (m_i σ 8 (a) 4).toInt ≤ (0 : Int) := ic_le.mp hp1
    refine Or.inl ⟨hp1, ?_⟩
    clear g
    replace h : EV F f 113 z113 42 [some (rf 8 (a)), some (.inl (x1))] [] σ (.inl (some (.inl w)), σ') := h
    exact j113_42 hs h
  · skip
    replace hp1 : ¬ ((m_i σ 8 (a) 4).toInt ≤ (0 : Int)) := (not_congr ic_le).mp hp1
    refine Or.inr ⟨hp1, ?_⟩
    clear g
    replace h : EV F f 113 z113 7 [some (rf 8 (a)), some (.inl (x1))] [] σ (.inl (some (.inl w)), σ') := h
    replace h := ei_p h rfl rfl rfl rfl
    obtain ⟨f, g, h⟩ := h
    clear g
    replace h : EV F f 113 z113 8 [some (rf 8 (a)), some (.inl (x1))] [rf 8 (a)] σ (.inl (some (.inl w)), σ') := h
    replace h := ei_get h rfl rfl
    obtain ⟨f, g, h⟩ := h
    clear g
    replace h : EV F f 113 z113 11 [some (rf 8 (a)), some (.inl (x1))] [.inl (m_i σ 8 (a) 3)] σ (.inl (some (.inl w)), σ') := h
    replace h := ei_c h rfl rfl rfl
    rcases h with ⟨hp2, f, g, h⟩ | ⟨hp2, f, g, h⟩
    · skip
      replace hp2 : (m_i σ 8 (a) 3).toInt ≤ (0 : Int) := ic_le.mp hp2
      refine Or.inl ⟨hp2, ?_⟩
      clear g
      replace h : EV F f 113 z113 42 [some (rf 8 (a)), some (.inl (x1))] [] σ (.inl (some (.inl w)), σ') := h
      exact j113_42 hs h
    · skip
      replace hp2 : ¬ ((m_i σ 8 (a) 3).toInt ≤ (0 : Int)) := (not_congr ic_le).mp hp2
      refine Or.inr ⟨hp2, ?_⟩
      clear g
      replace h : EV F f 113 z113 14 [some (rf 8 (a)), some (.inl (x1))] [] σ (.inl (some (.inl w)), σ') := h
      replace h := ei_p h rfl rfl rfl rfl
      obtain ⟨f, g, h⟩ := h
      clear g
      replace h : EV F f 113 z113 15 [some (rf 8 (a)), some (.inl (x1))] [.inl (x1)] σ (.inl (some (.inl w)), σ') := h
      replace h := ei_p h rfl rfl rfl rfl
      obtain ⟨f, g, h⟩ := h
      clear g
      replace h : EV F f 113 z113 16 [some (rf 8 (a)), some (.inl (x1))] [rf 8 (a), .inl (x1)] σ (.inl (some (.inl w)), σ') := h
      replace h := ei_get h rfl rfl
      obtain ⟨f, g, h⟩ := h
      clear g
      replace h : EV F f 113 z113 19 [some (rf 8 (a)), some (.inl (x1))] [.inl (m_i σ 8 (a) 3), .inl (x1)] σ (.inl (some (.inl w)), σ') := h
      replace h := ei_p h rfl rfl rfl rfl
      obtain ⟨f, g, h⟩ := h
      clear g
      replace h : EV F f 113 z113 20 [some (rf 8 (a)), some (.inl (x1))] [.inl ((x1) - (m_i σ 8 (a) 3))] σ (.inl (some (.inl w)), σ') := h
      replace h := ei_m (st' := [.inl (jabs ((x1) - (m_i σ 8 (a) 3)))]) h rfl (Nat.le_of_ble_eq_true rfl) (fun w hw => (Option.some.inj (ev_if_some.mp hw).2).symm)
      obtain ⟨f, g, h⟩ := h
      clear g
      replace h : EV F f 113 z113 23 [some (rf 8 (a)), some (.inl (x1))] [.inl (jabs ((x1) - (m_i σ 8 (a) 3)))] σ (.inl (some (.inl w)), σ') := h
      replace h := ei_p h rfl rfl rfl rfl
      obtain ⟨f, g, h⟩ := h
      clear g
      replace h : EV F f 113 z113 24 [some (rf 8 (a)), some (.inl (x1))] [rf 8 (a), .inl (jabs ((x1) - (m_i σ 8 (a) 3)))] σ (.inl (some (.inl w)), σ') := h
      replace h := ei_get h rfl rfl
      obtain ⟨f, g, h⟩ := h
      clear g
      replace h : EV F f 113 z113 27 [some (rf 8 (a)), some (.inl (x1))] [.inl (m_i σ 8 (a) 3), .inl (jabs ((x1) - (m_i σ 8 (a) 3)))] σ (.inl (some (.inl w)), σ') := h
      replace h := ei_p h rfl rfl rfl rfl
      obtain ⟨f, g, h⟩ := h
      clear g
      replace h : EV F f 113 z113 28 [some (rf 8 (a)), some (.inl (x1))] [rf 8 (a), .inl (m_i σ 8 (a) 3), .inl (jabs ((x1) - (m_i σ 8 (a) 3)))] σ (.inl (some (.inl w)), σ') := h
      replace h := ei_get h rfl rfl
      obtain ⟨f, g, h⟩ := h
      clear g
      replace h : EV F f 113 z113 31 [some (rf 8 (a)), some (.inl (x1))] [.inl (m_i σ 8 (a) 4), .inl (m_i σ 8 (a) 3), .inl (jabs ((x1) - (m_i σ 8 (a) 3)))] σ (.inl (some (.inl w)), σ') := h
      replace h := ei_p h rfl rfl rfl rfl
      obtain ⟨f, g, h⟩ := h
      clear g
      replace h : EV F f 113 z113 32 [some (rf 8 (a)), some (.inl (x1))] [.inl ((m_i σ 8 (a) 3) * (m_i σ 8 (a) 4)), .inl (jabs ((x1) - (m_i σ 8 (a) 3)))] σ (.inl (some (.inl w)), σ') := h
      replace h := ei_p h rfl rfl rfl rfl
      obtain ⟨f, g, h⟩ := h
      clear g
      replace h : EV F f 113 z113 34 [some (rf 8 (a)), some (.inl (x1))] [.inl (Int32.ofInt 100), .inl ((m_i σ 8 (a) 3) * (m_i σ 8 (a) 4)), .inl (jabs ((x1) - (m_i σ 8 (a) 3)))] σ (.inl (some (.inl w)), σ') := h
      replace h := ei_idiv h rfl
      obtain ⟨hd3, f, g, h⟩ := h
      clear g
      replace h : EV F f 113 z113 35 [some (rf 8 (a)), some (.inl (x1))] [.inl (((m_i σ 8 (a) 3) * (m_i σ 8 (a) 4)) / (Int32.ofInt 100)), .inl (jabs ((x1) - (m_i σ 8 (a) 3)))] σ (.inl (some (.inl w)), σ') := h
      replace h := ei_c h rfl rfl rfl
      rcases h with ⟨hp4, f, g, h⟩ | ⟨hp4, f, g, h⟩
      · skip
        replace hp4 : (jabs ((x1) - (m_i σ 8 (a) 3))).toInt ≤ (((m_i σ 8 (a) 3) * (m_i σ 8 (a) 4)) / (Int32.ofInt 100)).toInt := ic_le.mp hp4
        refine Or.inl ⟨hp4, ?_⟩
        clear g
        replace h : EV F f 113 z113 42 [some (rf 8 (a)), some (.inl (x1))] [] σ (.inl (some (.inl w)), σ') := h
        exact j113_42 hs h
      · skip
        replace hp4 : ¬ ((jabs ((x1) - (m_i σ 8 (a) 3))).toInt ≤ (((m_i σ 8 (a) 3) * (m_i σ 8 (a) 4)) / (Int32.ofInt 100)).toInt) := (not_congr ic_le).mp hp4
        refine Or.inr ⟨hp4, ?_⟩
        clear g
        replace h : EV F f 113 z113 38 [some (rf 8 (a)), some (.inl (x1))] [] σ (.inl (some (.inl w)), σ') := h
        replace h := ei_p h rfl rfl rfl rfl
        obtain ⟨f, g, h⟩ := h
        clear g
        replace h : EV F f 113 z113 39 [some (rf 8 (a)), some (.inl (x1))] [.inl (Int32.ofInt 1)] σ (.inl (some (.inl w)), σ') := h
        replace h := ei_p h rfl rfl rfl rfl
        obtain ⟨f, g, h⟩ := h
        clear g
        replace h : EV F f 113 z113 43 [some (rf 8 (a)), some (.inl (x1))] [.inl (Int32.ofInt 1)] σ (.inl (some (.inl w)), σ') := h
        have e := ei_iret h rfl
        cases e
        exact rfl
def z68 : mAl := ((yX4_takeAway, cX4_takeAway, 1, none, { frames := 1, cells := 0, slots := 0, locals := 20 }, []), rw_X4_takeAway, false)
theorem z68_at : m_alF[68]? = some z68 := rfl
abbrev L68 : List (Nat × Nat) := [(7, 6), (7, 7), (7, 9), (7, 12)]
abbrev w68 : Nat → Nat → Bool := wl L68
def S68 : List Nat := [68, 106]
theorem W68 : fw_S w68 S68 = true := by decide +kernel
def P68 (σ : mS) (x1 : mR) (σ' : mS) : Prop := ((x1 = none ∧ σ' = σ) ∨ (∃ q2, x1 = some q2 ∧ ∃ i5, (some q2 : mR) = some (7, i5) ∧ ∃ σ8, fw_e w106 σ σ8 ∧ P106 σ (i5) σ8 ∧ σ' = σ8))
theorem x68 {σ σ' : mS} {x1 : mR} (hs : HS σ) (h : ev_run sm_all 68 [.inr (.inr (x1))] σ (.inl none) σ') : P68 σ x1 σ' := by
  unfold P68
  obtain ⟨F, f, h⟩ := ei_go h z68_at
  replace h : EV F f 68 z68 0 [some (.inr (.inr (x1)))] [] σ (.inl none, σ') := h
  replace h := ei_p h rfl rfl rfl rfl
  obtain ⟨f, g, h⟩ := h
  clear g
  replace h : EV F f 68 z68 1 [some (.inr (.inr (x1)))] [.inr (.inr (x1))] σ (.inl none, σ') := h
  rcases r_cs (x1) with e1 | ⟨q2, e1⟩
  · skip
    rw [e1] at h
    refine Or.inl ⟨e1, ?_⟩
    replace h : EV F f 68 z68 1 [some (.inr (.inr none))] [.inr (.inr none)] σ (.inl none, σ') := h
    replace h := ei_c h rfl rfl rfl
    rcases h with ⟨hp3, f, g, h⟩ | ⟨hp3, f, g, h⟩
    · skip
      clear g
      replace h : EV F f 68 z68 8 [some (.inr (.inr none))] [] σ (.inl none, σ') := h
      have e := ei_ret h rfl
      cases e
      exact rfl
    · exact absurd rfl hp3
  · skip
    rw [e1] at h
    refine Or.inr ⟨q2, e1, ?_⟩
    replace h : EV F f 68 z68 1 [some (.inr (.inr (some q2)))] [.inr (.inr (some q2))] σ (.inl none, σ') := h
    replace h := ei_c h rfl rfl rfl
    rcases h with ⟨hp4, f, g, h⟩ | ⟨hp4, f, g, h⟩
    · exact absurd hp4 (fun z => by cases z)
    · skip
      clear g
      replace h : EV F f 68 z68 4 [some (.inr (.inr (some q2)))] [] σ (.inl none, σ') := h
      replace h := ei_p h rfl rfl rfl rfl
      obtain ⟨f, g, h⟩ := h
      clear g
      replace h : EV F f 68 z68 5 [some (.inr (.inr (some q2)))] [.inr (.inr (some q2))] σ (.inl none, σ') := h
      obtain ⟨i5, e6⟩ := ei_vp (as := []) h rfl rfl
      rw [Option.some.inj e6] at h
      refine ⟨i5, e6, ?_⟩
      replace h : EV F f 68 z68 5 [some (rf 7 (i5))] [rf 7 (i5)] σ (.inl none, σ') := h
      replace h := bk_0 (ei_v (as := []) h rfl rfl rfl) rfl z106_at rfl
      obtain ⟨σ8, r9, f, g, h⟩ := h
      clear g
      have p10 := x106 hs r9
      have hsσ8 : HS σ8 := HS_run rfl r9 hs
      refine ⟨σ8, fw_run W106 rfl r9, p10, ?_⟩
      replace h : EV F f 68 z68 8 [some (rf 7 (i5))] [] σ8 (.inl none, σ') := h
      have e := ei_ret h rfl
      cases e
      exact rfl
def z67 : mAl := ((yX4_tradeWith, cX4_tradeWith, 8, none, { frames := 2, cells := 0, slots := 0, locals := 60 }, []), rw_X4_tradeWith, false)
theorem z67_at : m_alF[67]? = some z67 := rfl
abbrev L67 : List (Nat × Nat) := [(2, 5), (6, 2), (6, 5), (7, 6), (7, 7), (7, 9), (7, 12), (8, 2), (8, 3), (8, 7), (10, 0), (10, 1), (10, 2), (10, 3), (10, 4), (10, 5), (10, 6), (10, 7), (10, 8), (10, 9), (14, 0)]
abbrev w67 : Nat → Nat → Bool := wl L67
def S67 : List Nat := [22, 32, 67, 68, 91, 95, 106, 114]
theorem W67 : fw_S w67 S67 = true := by decide +kernel
def P67 (σ : mS) (x1 : mR) (x2 : mR) (x3 : mR) (x4 : Int32) (σ' : mS) : Prop := ∃ i1, x1 = some (7, i1) ∧ (((m_i σ 7 (i1) 3).toInt ≠ (0 : Int) ∧ (∃ i5, x2 = some (7, i5) ∧ (∃ σ9, fw_e w32 σ σ9 ∧ P32 σ (x3) (m_i σ 7 (i5) 4) (x4) (m_i σ 7 (i5) 1) (m_i σ 7 (i1) 1) (Int32.ofInt 0) σ9 ∧ ∃ σ13, fw_e w68 σ9 σ13 ∧ P68 σ9 (m_r σ9 7 (i1) 12) σ13 ∧ ∃ σ17, fw_e w68 σ13 σ17 ∧ P68 σ13 (m_r σ13 7 (i5) 12) σ17 ∧ σ' = σ17))) ∨ (¬ ((m_i σ 7 (i1) 3).toInt ≠ (0 : Int)) ∧ ((∃ i22, x2 = some (7, i22) ∧ ∃ σ25, fw_e w32 σ σ25 ∧ P32 σ (x3) (m_i σ 7 (i22) 4) (x4) (m_i σ 7 (i1) 1) (m_i σ 7 (i22) 1) (Int32.ofInt 1) σ25 ∧ ∃ σ29, fw_e w68 σ25 σ29 ∧ P68 σ25 (m_r σ25 7 (i1) 12) σ29 ∧ ∃ σ33, fw_e w68 σ29 σ33 ∧ P68 σ29 (m_r σ29 7 (i22) 12) σ33 ∧ σ' = σ33))))
theorem x67 {σ σ' : mS} {x1 : mR} {x2 : mR} {x3 : mR} {x4 : Int32} (hs : HS σ) (h : ev_run sm_all 67 [rf 4 (0), .inr (.inr (x1)), .inr (.inr (x2)), .inr (.inr (x3)), .inl (x4)] σ (.inl none) σ') : P67 σ x1 x2 x3 x4 σ' := by
  unfold P67
  obtain ⟨F, f, h⟩ := ei_go h z67_at
  replace h : EV F f 67 z67 0 [some (rf 4 (0)), some (.inr (.inr (x1))), some (.inr (.inr (x2))), some (.inr (.inr (x3))), some (.inl (x4)), none, none, none] [] σ (.inl none, σ') := h
  replace h := ei_p h rfl rfl rfl rfl
  obtain ⟨f, g, h⟩ := h
  clear g
  replace h : EV F f 67 z67 1 [some (rf 4 (0)), some (.inr (.inr (x1))), some (.inr (.inr (x2))), some (.inr (.inr (x3))), some (.inl (x4)), none, none, none] [.inr (.inr (x1))] σ (.inl none, σ') := h
  obtain ⟨i1, e2⟩ := ei_gp h rfl
  rw [e2] at h
  refine ⟨i1, e2, ?_⟩
  replace h : EV F f 67 z67 1 [some (rf 4 (0)), some (rf 7 (i1)), some (.inr (.inr (x2))), some (.inr (.inr (x3))), some (.inl (x4)), none, none, none] [rf 7 (i1)] σ (.inl none, σ') := h
  replace h := ei_get h rfl rfl
  obtain ⟨f, g, h⟩ := h
  clear g
  replace h : EV F f 67 z67 4 [some (rf 4 (0)), some (rf 7 (i1)), some (.inr (.inr (x2))), some (.inr (.inr (x3))), some (.inl (x4)), none, none, none] [.inl (m_i σ 7 (i1) 3)] σ (.inl none, σ') := h
  replace h := ei_c h rfl rfl rfl
  rcases h with ⟨hp3, f, g, h⟩ | ⟨hp3, f, g, h⟩
  · skip
    replace hp3 : (m_i σ 7 (i1) 3).toInt ≠ (0 : Int) := ic_ne.mp hp3
    refine Or.inl ⟨hp3, ?_⟩
    clear g
    replace h : EV F f 67 z67 11 [some (rf 4 (0)), some (rf 7 (i1)), some (.inr (.inr (x2))), some (.inr (.inr (x3))), some (.inl (x4)), none, none, none] [] σ (.inl none, σ') := h
    replace h := ei_p h rfl rfl rfl rfl
    obtain ⟨f, g, h⟩ := h
    clear g
    replace h : EV F f 67 z67 12 [some (rf 4 (0)), some (rf 7 (i1)), some (.inr (.inr (x2))), some (.inr (.inr (x3))), some (.inl (x4)), none, none, none] [.inl (Int32.ofInt 0)] σ (.inl none, σ') := h
    replace h := ei_p h rfl rfl rfl rfl
    obtain ⟨f, g, h⟩ := h
    clear g
    replace h : EV F f 67 z67 14 [some (rf 4 (0)), some (rf 7 (i1)), some (.inr (.inr (x2))), some (.inr (.inr (x3))), some (.inl (x4)), some (.inl (Int32.ofInt 0)), none, none] [] σ (.inl none, σ') := h
    replace h := ei_p h rfl rfl rfl rfl
    obtain ⟨f, g, h⟩ := h
    clear g
    replace h : EV F f 67 z67 16 [some (rf 4 (0)), some (rf 7 (i1)), some (.inr (.inr (x2))), some (.inr (.inr (x3))), some (.inl (x4)), some (.inl (Int32.ofInt 0)), none, none] [.inl (Int32.ofInt 0)] σ (.inl none, σ') := h
    replace h := ei_c h rfl rfl rfl
    rcases h with ⟨hp4, f, g, h⟩ | ⟨hp4, f, g, h⟩
    · skip
      clear g
      replace h : EV F f 67 z67 26 [some (rf 4 (0)), some (rf 7 (i1)), some (.inr (.inr (x2))), some (.inr (.inr (x3))), some (.inl (x4)), some (.inl (Int32.ofInt 0)), none, none] [] σ (.inl none, σ') := h
      replace h := ei_p h rfl rfl rfl rfl
      obtain ⟨f, g, h⟩ := h
      clear g
      replace h : EV F f 67 z67 27 [some (rf 4 (0)), some (rf 7 (i1)), some (.inr (.inr (x2))), some (.inr (.inr (x3))), some (.inl (x4)), some (.inl (Int32.ofInt 0)), none, none] [.inr (.inr (x2))] σ (.inl none, σ') := h
      obtain ⟨i5, e6⟩ := ei_gp h rfl
      rw [e6] at h
      refine ⟨i5, e6, ?_⟩
      replace h : EV F f 67 z67 27 [some (rf 4 (0)), some (rf 7 (i1)), some (rf 7 (i5)), some (.inr (.inr (x3))), some (.inl (x4)), some (.inl (Int32.ofInt 0)), none, none] [rf 7 (i5)] σ (.inl none, σ') := h
      replace h := ei_get h rfl rfl
      obtain ⟨f, g, h⟩ := h
      clear g
      replace h : EV F f 67 z67 30 [some (rf 4 (0)), some (rf 7 (i1)), some (rf 7 (i5)), some (.inr (.inr (x3))), some (.inl (x4)), some (.inl (Int32.ofInt 0)), none, none] [.inl (m_i σ 7 (i5) 1)] σ (.inl none, σ') := h
      replace h := ei_p h rfl rfl rfl rfl
      obtain ⟨f, g, h⟩ := h
      clear g
      replace h : EV F f 67 z67 32 [some (rf 4 (0)), some (rf 7 (i1)), some (rf 7 (i5)), some (.inr (.inr (x3))), some (.inl (x4)), some (.inl (Int32.ofInt 0)), some (.inl (m_i σ 7 (i5) 1)), none] [] σ (.inl none, σ') := h
      replace h := ei_p h rfl rfl rfl rfl
      obtain ⟨f, g, h⟩ := h
      clear g
      replace h : EV F f 67 z67 34 [some (rf 4 (0)), some (rf 7 (i1)), some (rf 7 (i5)), some (.inr (.inr (x3))), some (.inl (x4)), some (.inl (Int32.ofInt 0)), some (.inl (m_i σ 7 (i5) 1)), none] [.inl (Int32.ofInt 0)] σ (.inl none, σ') := h
      replace h := ei_c h rfl rfl rfl
      rcases h with ⟨hp7, f, g, h⟩ | ⟨hp7, f, g, h⟩
      · skip
        clear g
        replace h : EV F f 67 z67 44 [some (rf 4 (0)), some (rf 7 (i1)), some (rf 7 (i5)), some (.inr (.inr (x3))), some (.inl (x4)), some (.inl (Int32.ofInt 0)), some (.inl (m_i σ 7 (i5) 1)), none] [] σ (.inl none, σ') := h
        replace h := ei_p h rfl rfl rfl rfl
        obtain ⟨f, g, h⟩ := h
        clear g
        replace h : EV F f 67 z67 45 [some (rf 4 (0)), some (rf 7 (i1)), some (rf 7 (i5)), some (.inr (.inr (x3))), some (.inl (x4)), some (.inl (Int32.ofInt 0)), some (.inl (m_i σ 7 (i5) 1)), none] [rf 7 (i1)] σ (.inl none, σ') := h
        replace h := ei_get h rfl rfl
        obtain ⟨f, g, h⟩ := h
        clear g
        replace h : EV F f 67 z67 48 [some (rf 4 (0)), some (rf 7 (i1)), some (rf 7 (i5)), some (.inr (.inr (x3))), some (.inl (x4)), some (.inl (Int32.ofInt 0)), some (.inl (m_i σ 7 (i5) 1)), none] [.inl (m_i σ 7 (i1) 1)] σ (.inl none, σ') := h
        replace h := ei_p h rfl rfl rfl rfl
        obtain ⟨f, g, h⟩ := h
        clear g
        replace h : EV F f 67 z67 50 [some (rf 4 (0)), some (rf 7 (i1)), some (rf 7 (i5)), some (.inr (.inr (x3))), some (.inl (x4)), some (.inl (Int32.ofInt 0)), some (.inl (m_i σ 7 (i5) 1)), some (.inl (m_i σ 7 (i1) 1))] [] σ (.inl none, σ') := h
        replace h := ei_p h rfl rfl rfl rfl
        obtain ⟨f, g, h⟩ := h
        clear g
        replace h : EV F f 67 z67 51 [some (rf 4 (0)), some (rf 7 (i1)), some (rf 7 (i5)), some (.inr (.inr (x3))), some (.inl (x4)), some (.inl (Int32.ofInt 0)), some (.inl (m_i σ 7 (i5) 1)), some (.inl (m_i σ 7 (i1) 1))] [rf 4 (0)] σ (.inl none, σ') := h
        replace h := ei_get h rfl (HS_g4_1 hs)
        obtain ⟨f, g, h⟩ := h
        clear g
        replace h : EV F f 67 z67 54 [some (rf 4 (0)), some (rf 7 (i1)), some (rf 7 (i5)), some (.inr (.inr (x3))), some (.inl (x4)), some (.inl (Int32.ofInt 0)), some (.inl (m_i σ 7 (i5) 1)), some (.inl (m_i σ 7 (i1) 1))] [rf 2 (0)] σ (.inl none, σ') := h
        replace h := ei_p h rfl rfl rfl rfl
        obtain ⟨f, g, h⟩ := h
        clear g
        replace h : EV F f 67 z67 55 [some (rf 4 (0)), some (rf 7 (i1)), some (rf 7 (i5)), some (.inr (.inr (x3))), some (.inl (x4)), some (.inl (Int32.ofInt 0)), some (.inl (m_i σ 7 (i5) 1)), some (.inl (m_i σ 7 (i1) 1))] [.inr (.inr (x3)), rf 2 (0)] σ (.inl none, σ') := h
        replace h := ei_p h rfl rfl rfl rfl
        obtain ⟨f, g, h⟩ := h
        clear g
        replace h : EV F f 67 z67 56 [some (rf 4 (0)), some (rf 7 (i1)), some (rf 7 (i5)), some (.inr (.inr (x3))), some (.inl (x4)), some (.inl (Int32.ofInt 0)), some (.inl (m_i σ 7 (i5) 1)), some (.inl (m_i σ 7 (i1) 1))] [rf 7 (i5), .inr (.inr (x3)), rf 2 (0)] σ (.inl none, σ') := h
        replace h := ei_get h rfl rfl
        obtain ⟨f, g, h⟩ := h
        clear g
        replace h : EV F f 67 z67 59 [some (rf 4 (0)), some (rf 7 (i1)), some (rf 7 (i5)), some (.inr (.inr (x3))), some (.inl (x4)), some (.inl (Int32.ofInt 0)), some (.inl (m_i σ 7 (i5) 1)), some (.inl (m_i σ 7 (i1) 1))] [.inl (m_i σ 7 (i5) 4), .inr (.inr (x3)), rf 2 (0)] σ (.inl none, σ') := h
        replace h := ei_p h rfl rfl rfl rfl
        obtain ⟨f, g, h⟩ := h
        clear g
        replace h : EV F f 67 z67 61 [some (rf 4 (0)), some (rf 7 (i1)), some (rf 7 (i5)), some (.inr (.inr (x3))), some (.inl (x4)), some (.inl (Int32.ofInt 0)), some (.inl (m_i σ 7 (i5) 1)), some (.inl (m_i σ 7 (i1) 1))] [.inl (x4), .inl (m_i σ 7 (i5) 4), .inr (.inr (x3)), rf 2 (0)] σ (.inl none, σ') := h
        replace h := ei_p h rfl rfl rfl rfl
        obtain ⟨f, g, h⟩ := h
        clear g
        replace h : EV F f 67 z67 63 [some (rf 4 (0)), some (rf 7 (i1)), some (rf 7 (i5)), some (.inr (.inr (x3))), some (.inl (x4)), some (.inl (Int32.ofInt 0)), some (.inl (m_i σ 7 (i5) 1)), some (.inl (m_i σ 7 (i1) 1))] [.inl (m_i σ 7 (i5) 1), .inl (x4), .inl (m_i σ 7 (i5) 4), .inr (.inr (x3)), rf 2 (0)] σ (.inl none, σ') := h
        replace h := ei_p h rfl rfl rfl rfl
        obtain ⟨f, g, h⟩ := h
        clear g
        replace h : EV F f 67 z67 65 [some (rf 4 (0)), some (rf 7 (i1)), some (rf 7 (i5)), some (.inr (.inr (x3))), some (.inl (x4)), some (.inl (Int32.ofInt 0)), some (.inl (m_i σ 7 (i5) 1)), some (.inl (m_i σ 7 (i1) 1))] [.inl (m_i σ 7 (i1) 1), .inl (m_i σ 7 (i5) 1), .inl (x4), .inl (m_i σ 7 (i5) 4), .inr (.inr (x3)), rf 2 (0)] σ (.inl none, σ') := h
        replace h := ei_p h rfl rfl rfl rfl
        obtain ⟨f, g, h⟩ := h
        clear g
        replace h : EV F f 67 z67 67 [some (rf 4 (0)), some (rf 7 (i1)), some (rf 7 (i5)), some (.inr (.inr (x3))), some (.inl (x4)), some (.inl (Int32.ofInt 0)), some (.inl (m_i σ 7 (i5) 1)), some (.inl (m_i σ 7 (i1) 1))] [.inl (Int32.ofInt 0), .inl (m_i σ 7 (i1) 1), .inl (m_i σ 7 (i5) 1), .inl (x4), .inl (m_i σ 7 (i5) 4), .inr (.inr (x3)), rf 2 (0)] σ (.inl none, σ') := h
        replace h := bk_0 (ei_v (as := [.inl (Int32.ofInt 0), .inl (m_i σ 7 (i1) 1), .inl (m_i σ 7 (i5) 1), .inl (x4), .inl (m_i σ 7 (i5) 4), .inr (.inr (x3))]) h rfl rfl rfl) rfl z32_at rfl
        obtain ⟨σ9, r10, f, g, h⟩ := h
        clear g
        have p11 := x32 hs r10
        have hsσ9 : HS σ9 := HS_run rfl r10 hs
        refine ⟨σ9, fw_run W32 rfl r10, p11, ?_⟩
        replace h : EV F f 67 z67 70 [some (rf 4 (0)), some (rf 7 (i1)), some (rf 7 (i5)), some (.inr (.inr (x3))), some (.inl (x4)), some (.inl (Int32.ofInt 0)), some (.inl (m_i σ 7 (i5) 1)), some (.inl (m_i σ 7 (i1) 1))] [] σ9 (.inl none, σ') := h
        replace h := ei_p h rfl rfl rfl rfl
        obtain ⟨f, g, h⟩ := h
        clear g
        replace h : EV F f 67 z67 71 [some (rf 4 (0)), some (rf 7 (i1)), some (rf 7 (i5)), some (.inr (.inr (x3))), some (.inl (x4)), some (.inl (Int32.ofInt 0)), some (.inl (m_i σ 7 (i5) 1)), some (.inl (m_i σ 7 (i1) 1))] [rf 7 (i1)] σ9 (.inl none, σ') := h
        replace h := ei_get h rfl rfl
        obtain ⟨f, g, h⟩ := h
        clear g
        replace h : EV F f 67 z67 74 [some (rf 4 (0)), some (rf 7 (i1)), some (rf 7 (i5)), some (.inr (.inr (x3))), some (.inl (x4)), some (.inl (Int32.ofInt 0)), some (.inl (m_i σ 7 (i5) 1)), some (.inl (m_i σ 7 (i1) 1))] [.inr (.inr (m_r σ9 7 (i1) 12))] σ9 (.inl none, σ') := h
        replace h := bk_0 (ei_s (as := [.inr (.inr (m_r σ9 7 (i1) 12))]) h rfl (Nat.le_of_ble_eq_true rfl) rfl rfl) rfl z68_at rfl
        obtain ⟨σ13, r14, f, g, h⟩ := h
        clear g
        have p15 := x68 hsσ9 r14
        have hsσ13 : HS σ13 := HS_run rfl r14 hsσ9
        refine ⟨σ13, fw_run W68 rfl r14, p15, ?_⟩
        replace h : EV F f 67 z67 77 [some (rf 4 (0)), some (rf 7 (i1)), some (rf 7 (i5)), some (.inr (.inr (x3))), some (.inl (x4)), some (.inl (Int32.ofInt 0)), some (.inl (m_i σ 7 (i5) 1)), some (.inl (m_i σ 7 (i1) 1))] [] σ13 (.inl none, σ') := h
        replace h := ei_p h rfl rfl rfl rfl
        obtain ⟨f, g, h⟩ := h
        clear g
        replace h : EV F f 67 z67 78 [some (rf 4 (0)), some (rf 7 (i1)), some (rf 7 (i5)), some (.inr (.inr (x3))), some (.inl (x4)), some (.inl (Int32.ofInt 0)), some (.inl (m_i σ 7 (i5) 1)), some (.inl (m_i σ 7 (i1) 1))] [rf 7 (i5)] σ13 (.inl none, σ') := h
        replace h := ei_get h rfl rfl
        obtain ⟨f, g, h⟩ := h
        clear g
        replace h : EV F f 67 z67 81 [some (rf 4 (0)), some (rf 7 (i1)), some (rf 7 (i5)), some (.inr (.inr (x3))), some (.inl (x4)), some (.inl (Int32.ofInt 0)), some (.inl (m_i σ 7 (i5) 1)), some (.inl (m_i σ 7 (i1) 1))] [.inr (.inr (m_r σ13 7 (i5) 12))] σ13 (.inl none, σ') := h
        replace h := bk_0 (ei_s (as := [.inr (.inr (m_r σ13 7 (i5) 12))]) h rfl (Nat.le_of_ble_eq_true rfl) rfl rfl) rfl z68_at rfl
        obtain ⟨σ17, r18, f, g, h⟩ := h
        clear g
        have p19 := x68 hsσ13 r18
        have hsσ17 : HS σ17 := HS_run rfl r18 hsσ13
        refine ⟨σ17, fw_run W68 rfl r18, p19, ?_⟩
        replace h : EV F f 67 z67 84 [some (rf 4 (0)), some (rf 7 (i1)), some (rf 7 (i5)), some (.inr (.inr (x3))), some (.inl (x4)), some (.inl (Int32.ofInt 0)), some (.inl (m_i σ 7 (i5) 1)), some (.inl (m_i σ 7 (i1) 1))] [] σ17 (.inl none, σ') := h
        have e := ei_ret h rfl
        cases e
        exact rfl
      · exact absurd (ic_eq.mpr (by decide)) hp7
    · exact absurd (ic_eq.mpr (by decide)) hp4
  · skip
    replace hp3 : ¬ ((m_i σ 7 (i1) 3).toInt ≠ (0 : Int)) := (not_congr ic_ne).mp hp3
    refine Or.inr ⟨hp3, ?_⟩
    clear g
    replace h : EV F f 67 z67 7 [some (rf 4 (0)), some (rf 7 (i1)), some (.inr (.inr (x2))), some (.inr (.inr (x3))), some (.inl (x4)), none, none, none] [] σ (.inl none, σ') := h
    replace h := ei_p h rfl rfl rfl rfl
    obtain ⟨f, g, h⟩ := h
    clear g
    replace h : EV F f 67 z67 8 [some (rf 4 (0)), some (rf 7 (i1)), some (.inr (.inr (x2))), some (.inr (.inr (x3))), some (.inl (x4)), none, none, none] [.inl (Int32.ofInt 1)] σ (.inl none, σ') := h
    replace h := ei_p h rfl rfl rfl rfl
    obtain ⟨f, g, h⟩ := h
    clear g
    replace h : EV F f 67 z67 12 [some (rf 4 (0)), some (rf 7 (i1)), some (.inr (.inr (x2))), some (.inr (.inr (x3))), some (.inl (x4)), none, none, none] [.inl (Int32.ofInt 1)] σ (.inl none, σ') := h
    replace h := ei_p h rfl rfl rfl rfl
    obtain ⟨f, g, h⟩ := h
    clear g
    replace h : EV F f 67 z67 14 [some (rf 4 (0)), some (rf 7 (i1)), some (.inr (.inr (x2))), some (.inr (.inr (x3))), some (.inl (x4)), some (.inl (Int32.ofInt 1)), none, none] [] σ (.inl none, σ') := h
    replace h := ei_p h rfl rfl rfl rfl
    obtain ⟨f, g, h⟩ := h
    clear g
    replace h : EV F f 67 z67 16 [some (rf 4 (0)), some (rf 7 (i1)), some (.inr (.inr (x2))), some (.inr (.inr (x3))), some (.inl (x4)), some (.inl (Int32.ofInt 1)), none, none] [.inl (Int32.ofInt 1)] σ (.inl none, σ') := h
    replace h := ei_c h rfl rfl rfl
    rcases h with ⟨hp20, f, g, h⟩ | ⟨hp20, f, g, h⟩
    · exact absurd (ic_eq.mp hp20) (by decide)
    · skip
      clear g
      replace h : EV F f 67 z67 19 [some (rf 4 (0)), some (rf 7 (i1)), some (.inr (.inr (x2))), some (.inr (.inr (x3))), some (.inl (x4)), some (.inl (Int32.ofInt 1)), none, none] [] σ (.inl none, σ') := h
      replace h := ei_p h rfl rfl rfl rfl
      obtain ⟨f, g, h⟩ := h
      clear g
      replace h : EV F f 67 z67 20 [some (rf 4 (0)), some (rf 7 (i1)), some (.inr (.inr (x2))), some (.inr (.inr (x3))), some (.inl (x4)), some (.inl (Int32.ofInt 1)), none, none] [rf 7 (i1)] σ (.inl none, σ') := h
      replace h := ei_get h rfl rfl
      obtain ⟨f, g, h⟩ := h
      clear g
      replace h : EV F f 67 z67 23 [some (rf 4 (0)), some (rf 7 (i1)), some (.inr (.inr (x2))), some (.inr (.inr (x3))), some (.inl (x4)), some (.inl (Int32.ofInt 1)), none, none] [.inl (m_i σ 7 (i1) 1)] σ (.inl none, σ') := h
      replace h := ei_p h rfl rfl rfl rfl
      obtain ⟨f, g, h⟩ := h
      clear g
      replace h : EV F f 67 z67 30 [some (rf 4 (0)), some (rf 7 (i1)), some (.inr (.inr (x2))), some (.inr (.inr (x3))), some (.inl (x4)), some (.inl (Int32.ofInt 1)), none, none] [.inl (m_i σ 7 (i1) 1)] σ (.inl none, σ') := h
      replace h := ei_p h rfl rfl rfl rfl
      obtain ⟨f, g, h⟩ := h
      clear g
      replace h : EV F f 67 z67 32 [some (rf 4 (0)), some (rf 7 (i1)), some (.inr (.inr (x2))), some (.inr (.inr (x3))), some (.inl (x4)), some (.inl (Int32.ofInt 1)), some (.inl (m_i σ 7 (i1) 1)), none] [] σ (.inl none, σ') := h
      replace h := ei_p h rfl rfl rfl rfl
      obtain ⟨f, g, h⟩ := h
      clear g
      replace h : EV F f 67 z67 34 [some (rf 4 (0)), some (rf 7 (i1)), some (.inr (.inr (x2))), some (.inr (.inr (x3))), some (.inl (x4)), some (.inl (Int32.ofInt 1)), some (.inl (m_i σ 7 (i1) 1)), none] [.inl (Int32.ofInt 1)] σ (.inl none, σ') := h
      replace h := ei_c h rfl rfl rfl
      rcases h with ⟨hp21, f, g, h⟩ | ⟨hp21, f, g, h⟩
      · exact absurd (ic_eq.mp hp21) (by decide)
      · skip
        clear g
        replace h : EV F f 67 z67 37 [some (rf 4 (0)), some (rf 7 (i1)), some (.inr (.inr (x2))), some (.inr (.inr (x3))), some (.inl (x4)), some (.inl (Int32.ofInt 1)), some (.inl (m_i σ 7 (i1) 1)), none] [] σ (.inl none, σ') := h
        replace h := ei_p h rfl rfl rfl rfl
        obtain ⟨f, g, h⟩ := h
        clear g
        replace h : EV F f 67 z67 38 [some (rf 4 (0)), some (rf 7 (i1)), some (.inr (.inr (x2))), some (.inr (.inr (x3))), some (.inl (x4)), some (.inl (Int32.ofInt 1)), some (.inl (m_i σ 7 (i1) 1)), none] [.inr (.inr (x2))] σ (.inl none, σ') := h
        obtain ⟨i22, e23⟩ := ei_gp h rfl
        rw [e23] at h
        refine ⟨i22, e23, ?_⟩
        replace h : EV F f 67 z67 38 [some (rf 4 (0)), some (rf 7 (i1)), some (rf 7 (i22)), some (.inr (.inr (x3))), some (.inl (x4)), some (.inl (Int32.ofInt 1)), some (.inl (m_i σ 7 (i1) 1)), none] [rf 7 (i22)] σ (.inl none, σ') := h
        replace h := ei_get h rfl rfl
        obtain ⟨f, g, h⟩ := h
        clear g
        replace h : EV F f 67 z67 41 [some (rf 4 (0)), some (rf 7 (i1)), some (rf 7 (i22)), some (.inr (.inr (x3))), some (.inl (x4)), some (.inl (Int32.ofInt 1)), some (.inl (m_i σ 7 (i1) 1)), none] [.inl (m_i σ 7 (i22) 1)] σ (.inl none, σ') := h
        replace h := ei_p h rfl rfl rfl rfl
        obtain ⟨f, g, h⟩ := h
        clear g
        replace h : EV F f 67 z67 48 [some (rf 4 (0)), some (rf 7 (i1)), some (rf 7 (i22)), some (.inr (.inr (x3))), some (.inl (x4)), some (.inl (Int32.ofInt 1)), some (.inl (m_i σ 7 (i1) 1)), none] [.inl (m_i σ 7 (i22) 1)] σ (.inl none, σ') := h
        replace h := ei_p h rfl rfl rfl rfl
        obtain ⟨f, g, h⟩ := h
        clear g
        replace h : EV F f 67 z67 50 [some (rf 4 (0)), some (rf 7 (i1)), some (rf 7 (i22)), some (.inr (.inr (x3))), some (.inl (x4)), some (.inl (Int32.ofInt 1)), some (.inl (m_i σ 7 (i1) 1)), some (.inl (m_i σ 7 (i22) 1))] [] σ (.inl none, σ') := h
        replace h := ei_p h rfl rfl rfl rfl
        obtain ⟨f, g, h⟩ := h
        clear g
        replace h : EV F f 67 z67 51 [some (rf 4 (0)), some (rf 7 (i1)), some (rf 7 (i22)), some (.inr (.inr (x3))), some (.inl (x4)), some (.inl (Int32.ofInt 1)), some (.inl (m_i σ 7 (i1) 1)), some (.inl (m_i σ 7 (i22) 1))] [rf 4 (0)] σ (.inl none, σ') := h
        replace h := ei_get h rfl (HS_g4_1 hs)
        obtain ⟨f, g, h⟩ := h
        clear g
        replace h : EV F f 67 z67 54 [some (rf 4 (0)), some (rf 7 (i1)), some (rf 7 (i22)), some (.inr (.inr (x3))), some (.inl (x4)), some (.inl (Int32.ofInt 1)), some (.inl (m_i σ 7 (i1) 1)), some (.inl (m_i σ 7 (i22) 1))] [rf 2 (0)] σ (.inl none, σ') := h
        replace h := ei_p h rfl rfl rfl rfl
        obtain ⟨f, g, h⟩ := h
        clear g
        replace h : EV F f 67 z67 55 [some (rf 4 (0)), some (rf 7 (i1)), some (rf 7 (i22)), some (.inr (.inr (x3))), some (.inl (x4)), some (.inl (Int32.ofInt 1)), some (.inl (m_i σ 7 (i1) 1)), some (.inl (m_i σ 7 (i22) 1))] [.inr (.inr (x3)), rf 2 (0)] σ (.inl none, σ') := h
        replace h := ei_p h rfl rfl rfl rfl
        obtain ⟨f, g, h⟩ := h
        clear g
        replace h : EV F f 67 z67 56 [some (rf 4 (0)), some (rf 7 (i1)), some (rf 7 (i22)), some (.inr (.inr (x3))), some (.inl (x4)), some (.inl (Int32.ofInt 1)), some (.inl (m_i σ 7 (i1) 1)), some (.inl (m_i σ 7 (i22) 1))] [rf 7 (i22), .inr (.inr (x3)), rf 2 (0)] σ (.inl none, σ') := h
        replace h := ei_get h rfl rfl
        obtain ⟨f, g, h⟩ := h
        clear g
        replace h : EV F f 67 z67 59 [some (rf 4 (0)), some (rf 7 (i1)), some (rf 7 (i22)), some (.inr (.inr (x3))), some (.inl (x4)), some (.inl (Int32.ofInt 1)), some (.inl (m_i σ 7 (i1) 1)), some (.inl (m_i σ 7 (i22) 1))] [.inl (m_i σ 7 (i22) 4), .inr (.inr (x3)), rf 2 (0)] σ (.inl none, σ') := h
        replace h := ei_p h rfl rfl rfl rfl
        obtain ⟨f, g, h⟩ := h
        clear g
        replace h : EV F f 67 z67 61 [some (rf 4 (0)), some (rf 7 (i1)), some (rf 7 (i22)), some (.inr (.inr (x3))), some (.inl (x4)), some (.inl (Int32.ofInt 1)), some (.inl (m_i σ 7 (i1) 1)), some (.inl (m_i σ 7 (i22) 1))] [.inl (x4), .inl (m_i σ 7 (i22) 4), .inr (.inr (x3)), rf 2 (0)] σ (.inl none, σ') := h
        replace h := ei_p h rfl rfl rfl rfl
        obtain ⟨f, g, h⟩ := h
        clear g
        replace h : EV F f 67 z67 63 [some (rf 4 (0)), some (rf 7 (i1)), some (rf 7 (i22)), some (.inr (.inr (x3))), some (.inl (x4)), some (.inl (Int32.ofInt 1)), some (.inl (m_i σ 7 (i1) 1)), some (.inl (m_i σ 7 (i22) 1))] [.inl (m_i σ 7 (i1) 1), .inl (x4), .inl (m_i σ 7 (i22) 4), .inr (.inr (x3)), rf 2 (0)] σ (.inl none, σ') := h
        replace h := ei_p h rfl rfl rfl rfl
        obtain ⟨f, g, h⟩ := h
        clear g
        replace h : EV F f 67 z67 65 [some (rf 4 (0)), some (rf 7 (i1)), some (rf 7 (i22)), some (.inr (.inr (x3))), some (.inl (x4)), some (.inl (Int32.ofInt 1)), some (.inl (m_i σ 7 (i1) 1)), some (.inl (m_i σ 7 (i22) 1))] [.inl (m_i σ 7 (i22) 1), .inl (m_i σ 7 (i1) 1), .inl (x4), .inl (m_i σ 7 (i22) 4), .inr (.inr (x3)), rf 2 (0)] σ (.inl none, σ') := h
        replace h := ei_p h rfl rfl rfl rfl
        obtain ⟨f, g, h⟩ := h
        clear g
        replace h : EV F f 67 z67 67 [some (rf 4 (0)), some (rf 7 (i1)), some (rf 7 (i22)), some (.inr (.inr (x3))), some (.inl (x4)), some (.inl (Int32.ofInt 1)), some (.inl (m_i σ 7 (i1) 1)), some (.inl (m_i σ 7 (i22) 1))] [.inl (Int32.ofInt 1), .inl (m_i σ 7 (i22) 1), .inl (m_i σ 7 (i1) 1), .inl (x4), .inl (m_i σ 7 (i22) 4), .inr (.inr (x3)), rf 2 (0)] σ (.inl none, σ') := h
        replace h := bk_0 (ei_v (as := [.inl (Int32.ofInt 1), .inl (m_i σ 7 (i22) 1), .inl (m_i σ 7 (i1) 1), .inl (x4), .inl (m_i σ 7 (i22) 4), .inr (.inr (x3))]) h rfl rfl rfl) rfl z32_at rfl
        obtain ⟨σ25, r26, f, g, h⟩ := h
        clear g
        have p27 := x32 hs r26
        have hsσ25 : HS σ25 := HS_run rfl r26 hs
        refine ⟨σ25, fw_run W32 rfl r26, p27, ?_⟩
        replace h : EV F f 67 z67 70 [some (rf 4 (0)), some (rf 7 (i1)), some (rf 7 (i22)), some (.inr (.inr (x3))), some (.inl (x4)), some (.inl (Int32.ofInt 1)), some (.inl (m_i σ 7 (i1) 1)), some (.inl (m_i σ 7 (i22) 1))] [] σ25 (.inl none, σ') := h
        replace h := ei_p h rfl rfl rfl rfl
        obtain ⟨f, g, h⟩ := h
        clear g
        replace h : EV F f 67 z67 71 [some (rf 4 (0)), some (rf 7 (i1)), some (rf 7 (i22)), some (.inr (.inr (x3))), some (.inl (x4)), some (.inl (Int32.ofInt 1)), some (.inl (m_i σ 7 (i1) 1)), some (.inl (m_i σ 7 (i22) 1))] [rf 7 (i1)] σ25 (.inl none, σ') := h
        replace h := ei_get h rfl rfl
        obtain ⟨f, g, h⟩ := h
        clear g
        replace h : EV F f 67 z67 74 [some (rf 4 (0)), some (rf 7 (i1)), some (rf 7 (i22)), some (.inr (.inr (x3))), some (.inl (x4)), some (.inl (Int32.ofInt 1)), some (.inl (m_i σ 7 (i1) 1)), some (.inl (m_i σ 7 (i22) 1))] [.inr (.inr (m_r σ25 7 (i1) 12))] σ25 (.inl none, σ') := h
        replace h := bk_0 (ei_s (as := [.inr (.inr (m_r σ25 7 (i1) 12))]) h rfl (Nat.le_of_ble_eq_true rfl) rfl rfl) rfl z68_at rfl
        obtain ⟨σ29, r30, f, g, h⟩ := h
        clear g
        have p31 := x68 hsσ25 r30
        have hsσ29 : HS σ29 := HS_run rfl r30 hsσ25
        refine ⟨σ29, fw_run W68 rfl r30, p31, ?_⟩
        replace h : EV F f 67 z67 77 [some (rf 4 (0)), some (rf 7 (i1)), some (rf 7 (i22)), some (.inr (.inr (x3))), some (.inl (x4)), some (.inl (Int32.ofInt 1)), some (.inl (m_i σ 7 (i1) 1)), some (.inl (m_i σ 7 (i22) 1))] [] σ29 (.inl none, σ') := h
        replace h := ei_p h rfl rfl rfl rfl
        obtain ⟨f, g, h⟩ := h
        clear g
        replace h : EV F f 67 z67 78 [some (rf 4 (0)), some (rf 7 (i1)), some (rf 7 (i22)), some (.inr (.inr (x3))), some (.inl (x4)), some (.inl (Int32.ofInt 1)), some (.inl (m_i σ 7 (i1) 1)), some (.inl (m_i σ 7 (i22) 1))] [rf 7 (i22)] σ29 (.inl none, σ') := h
        replace h := ei_get h rfl rfl
        obtain ⟨f, g, h⟩ := h
        clear g
        replace h : EV F f 67 z67 81 [some (rf 4 (0)), some (rf 7 (i1)), some (rf 7 (i22)), some (.inr (.inr (x3))), some (.inl (x4)), some (.inl (Int32.ofInt 1)), some (.inl (m_i σ 7 (i1) 1)), some (.inl (m_i σ 7 (i22) 1))] [.inr (.inr (m_r σ29 7 (i22) 12))] σ29 (.inl none, σ') := h
        replace h := bk_0 (ei_s (as := [.inr (.inr (m_r σ29 7 (i22) 12))]) h rfl (Nat.le_of_ble_eq_true rfl) rfl rfl) rfl z68_at rfl
        obtain ⟨σ33, r34, f, g, h⟩ := h
        clear g
        have p35 := x68 hsσ29 r34
        have hsσ33 : HS σ33 := HS_run rfl r34 hsσ29
        refine ⟨σ33, fw_run W68 rfl r34, p35, ?_⟩
        replace h : EV F f 67 z67 84 [some (rf 4 (0)), some (rf 7 (i1)), some (rf 7 (i22)), some (.inr (.inr (x3))), some (.inl (x4)), some (.inl (Int32.ofInt 1)), some (.inl (m_i σ 7 (i1) 1)), some (.inl (m_i σ 7 (i22) 1))] [] σ33 (.inl none, σ') := h
        have e := ei_ret h rfl
        cases e
        exact rfl
