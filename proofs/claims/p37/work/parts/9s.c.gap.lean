/-! levels: gaps are made and closed -/
def z81 : mAl := ((yX5_put, cX5_put, 5, none, { frames := 1, cells := 0, slots := 0, locals := 22 }, []), rw_X5_put, false)
theorem z81_at : m_alF[81]? = some z81 := rfl
def z82 : mAl := ((yX5_makeGapAt, cX5_makeGapAt, 3, none, { frames := 0, cells := 0, slots := 0, locals := 0 }, []), rw_X5_makeGapAt, false)
theorem z82_at : m_alF[82]? = some z82 := rfl
def z83 : mAl := ((yX5_closeGapAt, cX5_closeGapAt, 3, none, { frames := 0, cells := 0, slots := 0, locals := 0 }, []), rw_X5_closeGapAt, false)
theorem z83_at : m_alF[83]? = some z83 := rfl
def z84 : mAl := ((yX5_takeOver, cX5_takeOver, 3, none, { frames := 0, cells := 0, slots := 0, locals := 0 }, []), rw_X5_takeOver, false)
theorem z84_at : m_alF[84]? = some z84 := rfl
/-- what a change of levels may write -/
def l5 (a ka qa : Nat) (c i k : Nat) : Prop := (c = 5 ∧ i = a ∧ k = 2) ∨ (c = 13 ∧ (i = ka ∨ i = qa))
def l13 (ka qa : Nat) (c i _k : Nat) : Prop := c = 13 ∧ (i = ka ∨ i = qa)
theorem l13_5 {ka qa i k : Nat} : ¬ l13 ka qa 5 i k := fun z => by cases z.1
theorem l2_k {τ : mS} {ka qa i j : Nat} {u v : Int32} (h : ka ≠ qa) : m_i (m_set (m_set τ 13 ka i (.inl u)) 13 qa i (.inl v)) 13 ka j = if j = i then u else m_i τ 13 ka j := by
  rw [mi_si, if_neg (fun z => h z.2.1), mi_si]
  by_cases c : j = i
  · rw [if_pos ⟨rfl, rfl, c⟩, if_pos c]
  · rw [if_neg (fun z => c z.2.2), if_neg c]
theorem l2_q {τ : mS} {ka qa i j : Nat} {u v : Int32} (h : ka ≠ qa) : m_i (m_set (m_set τ 13 ka i (.inl u)) 13 qa i (.inl v)) 13 qa j = if j = i then v else m_i τ 13 qa j := by
  rw [mi_si]
  by_cases c : j = i
  · rw [if_pos ⟨rfl, rfl, c⟩, if_pos c]
  · rw [if_neg (fun z => c z.2.2), mi_si, if_neg (fun z => h z.2.1.symm), if_neg c]
theorem s82 {σ σ' : mS} {a ka qa n : Nat} {p : Int32} {w : mX} (hv : lv σ a ka qa n) (hp : 0 ≤ p.toInt ∧ p.toInt ≤ n ∧ n < 480) (h : ev_run sm_all 82 [rf 5 a, .inl p] σ w σ') : w = .inl none ∧ fr3 (l5 a ka qa) σ σ' ∧ (m_i σ' 5 a 2).toInt = (n : Int) + 1 ∧ (∀ j : Nat, (j : Int) < p.toInt → m_i σ' 13 ka j = m_i σ 13 ka j ∧ m_i σ' 13 qa j = m_i σ 13 qa j) ∧ ∀ j : Nat, p.toInt ≤ j → j < n → m_i σ' 13 ka (j + 1) = m_i σ 13 ka j ∧ m_i σ' 13 qa (j + 1) = m_i σ 13 qa j := by
  obtain ⟨F, f, h⟩ := ei_go h z82_at
  have hn := hv.2.2.2.2.1
  have hn4 := hv.2.2.2.2.2.1
  have hkq := hv.2.2.2.2.2.2
  have loop : ∀ N f, f < N → ∀ (i : Int32) (τ : mS), fr3 (l13 ka qa) σ τ → p.toInt ≤ i.toInt → i.toInt ≤ n → (∀ j : Nat, (j : Int) ≤ i.toInt → m_i τ 13 ka j = m_i σ 13 ka j ∧ m_i τ 13 qa j = m_i σ 13 qa j) → (∀ j : Nat, i.toInt ≤ j → j < n → m_i τ 13 ka (j + 1) = m_i σ 13 ka j ∧ m_i τ 13 qa (j + 1) = m_i σ 13 qa j) → EV F f 82 z82 5 [some (rf 5 a), some (.inl p), some (.inl i)] [] τ (w, σ') → w = .inl none ∧ fr3 (l5 a ka qa) σ σ' ∧ (m_i σ' 5 a 2).toInt = (n : Int) + 1 ∧ (∀ j : Nat, (j : Int) < p.toInt → m_i σ' 13 ka j = m_i σ 13 ka j ∧ m_i σ' 13 qa j = m_i σ 13 qa j) ∧ ∀ j : Nat, p.toInt ≤ j → j < n → m_i σ' 13 ka (j + 1) = m_i σ 13 ka j ∧ m_i σ' 13 qa (j + 1) = m_i σ 13 qa j := by
    intro N
    induction N with
    | zero => intro f hf; omega
    | succ N IH =>
      intro f hf0 i τ hT i1 i2 i3 i4 h
      have hf : f < N + 1 := hf0
      clear hf0
      have hc : m_i τ 5 a 2 = m_i σ 5 a 2 := (hT.2.2 5 a 2 l13_5).1
      have ib := i_b i
      replace h := ei_p h rfl rfl rfl rfl
      obtain ⟨f, g, h⟩ := h
      replace hf := Nat.lt_of_lt_of_le g (Nat.le_of_lt_succ hf)
      clear g
      replace h : EV F f 82 z82 6 [some (rf 5 (a)), some (.inl (p)), some (.inl (i))] [.inl (i)] τ (w, σ') := h
      replace h := ei_p h rfl rfl rfl rfl
      obtain ⟨f, g, h⟩ := h
      replace hf := Nat.lt_trans g hf
      clear g
      replace h : EV F f 82 z82 7 [some (rf 5 (a)), some (.inl (p)), some (.inl (i))] [.inl (p), .inl (i)] τ (w, σ') := h
      replace h := ei_c h rfl rfl rfl
      rcases h with ⟨hp1, f, g, h⟩ | ⟨hp1, f, g, h⟩
      · skip
        replace hp1 : (i).toInt ≤ (p).toInt := ic_le.mp hp1
        replace hf := Nat.lt_trans g hf
        clear g
        replace h : EV F f 82 z82 55 [some (rf 5 (a)), some (.inl (p)), some (.inl (i))] [] τ (w, σ') := h
        replace h := ei_p h rfl rfl rfl rfl
        obtain ⟨f, g, h⟩ := h
        replace hf := Nat.lt_trans g hf
        clear g
        replace h : EV F f 82 z82 56 [some (rf 5 (a)), some (.inl (p)), some (.inl (i))] [rf 5 (a)] τ (w, σ') := h
        replace h := ei_p h rfl rfl rfl rfl
        obtain ⟨f, g, h⟩ := h
        replace hf := Nat.lt_trans g hf
        clear g
        replace h : EV F f 82 z82 57 [some (rf 5 (a)), some (.inl (p)), some (.inl (i))] [rf 5 (a), rf 5 (a)] τ (w, σ') := h
        replace h := ei_get h rfl rfl
        obtain ⟨f, g, h⟩ := h
        replace hf := Nat.lt_trans g hf
        clear g
        replace h : EV F f 82 z82 60 [some (rf 5 (a)), some (.inl (p)), some (.inl (i))] [.inl (m_i τ 5 (a) (2)), rf 5 (a)] τ (w, σ') := h
        replace h := ei_p h rfl rfl rfl rfl
        obtain ⟨f, g, h⟩ := h
        replace hf := Nat.lt_trans g hf
        clear g
        replace h : EV F f 82 z82 61 [some (rf 5 (a)), some (.inl (p)), some (.inl (i))] [.inl (Int32.ofInt 1), .inl (m_i τ 5 (a) (2)), rf 5 (a)] τ (w, σ') := h
        replace h := ei_p h rfl rfl rfl rfl
        obtain ⟨f, g, h⟩ := h
        replace hf := Nat.lt_trans g hf
        clear g
        replace h : EV F f 82 z82 62 [some (rf 5 (a)), some (.inl (p)), some (.inl (i))] [.inl ((m_i τ 5 (a) (2)) + (Int32.ofInt 1)), rf 5 (a)] τ (w, σ') := h
        replace h := ei_put h rfl
        obtain ⟨ht2, f, g, h⟩ := h
        replace hf := Nat.lt_trans g hf
        clear g
        replace h : EV F f 82 z82 65 [some (rf 5 (a)), some (.inl (p)), some (.inl (i))] [] (m_set τ 5 (a) 2 (.inl ((m_i τ 5 (a) (2)) + (Int32.ofInt 1)))) (w, σ') := h
        have e := ei_ret h rfl
        cases e
        have ei : i.toInt = p.toInt := by have := hp1; omega
        have ec : ((m_i τ 5 (a) (2)) + (Int32.ofInt 1)).toInt = (n : Int) + 1 := by rw [hc, i_inc (by omega) (by omega)]; omega
        refine ⟨rfl, (hT.mono (fun c j k z => Or.inr z)).set (Or.inl ⟨rfl, rfl, rfl⟩), by rw [mi_si, if_pos ⟨rfl, rfl, rfl⟩]; exact ec, fun j hj => ?_, fun j hj hj2 => ?_⟩
        · have g := i3 j (by omega)
          exact ⟨(mi_si.trans (if_neg (fun z => by cases z.1))).trans g.1, (mi_si.trans (if_neg (fun z => by cases z.1))).trans g.2⟩
        · have g := i4 j (by omega) hj2
          exact ⟨(mi_si.trans (if_neg (fun z => by cases z.1))).trans g.1, (mi_si.trans (if_neg (fun z => by cases z.1))).trans g.2⟩
      · skip
        replace hp1 : ¬ ((i).toInt ≤ (p).toInt) := (not_congr ic_le).mp hp1
        replace hf := Nat.lt_trans g hf
        clear g
        replace h : EV F f 82 z82 10 [some (rf 5 (a)), some (.inl (p)), some (.inl (i))] [] τ (w, σ') := h
        replace h := ei_p h rfl rfl rfl rfl
        obtain ⟨f, g, h⟩ := h
        replace hf := Nat.lt_trans g hf
        clear g
        replace h : EV F f 82 z82 11 [some (rf 5 (a)), some (.inl (p)), some (.inl (i))] [.inl (i)] τ (w, σ') := h
        replace h := ei_c h rfl rfl rfl
        rcases h with ⟨hp3, f, g, h⟩ | ⟨hp3, f, g, h⟩
        · skip
          replace hp3 : (i).toInt ≤ (0 : Int) := ic_le.mp hp3
          replace hf := Nat.lt_trans g hf
          clear g
          replace h : EV F f 82 z82 55 [some (rf 5 (a)), some (.inl (p)), some (.inl (i))] [] τ (w, σ') := h
          replace h := ei_p h rfl rfl rfl rfl
          obtain ⟨f, g, h⟩ := h
          replace hf := Nat.lt_trans g hf
          clear g
          replace h : EV F f 82 z82 56 [some (rf 5 (a)), some (.inl (p)), some (.inl (i))] [rf 5 (a)] τ (w, σ') := h
          replace h := ei_p h rfl rfl rfl rfl
          obtain ⟨f, g, h⟩ := h
          replace hf := Nat.lt_trans g hf
          clear g
          replace h : EV F f 82 z82 57 [some (rf 5 (a)), some (.inl (p)), some (.inl (i))] [rf 5 (a), rf 5 (a)] τ (w, σ') := h
          replace h := ei_get h rfl rfl
          obtain ⟨f, g, h⟩ := h
          replace hf := Nat.lt_trans g hf
          clear g
          replace h : EV F f 82 z82 60 [some (rf 5 (a)), some (.inl (p)), some (.inl (i))] [.inl (m_i τ 5 (a) (2)), rf 5 (a)] τ (w, σ') := h
          replace h := ei_p h rfl rfl rfl rfl
          obtain ⟨f, g, h⟩ := h
          replace hf := Nat.lt_trans g hf
          clear g
          replace h : EV F f 82 z82 61 [some (rf 5 (a)), some (.inl (p)), some (.inl (i))] [.inl (Int32.ofInt 1), .inl (m_i τ 5 (a) (2)), rf 5 (a)] τ (w, σ') := h
          replace h := ei_p h rfl rfl rfl rfl
          obtain ⟨f, g, h⟩ := h
          replace hf := Nat.lt_trans g hf
          clear g
          replace h : EV F f 82 z82 62 [some (rf 5 (a)), some (.inl (p)), some (.inl (i))] [.inl ((m_i τ 5 (a) (2)) + (Int32.ofInt 1)), rf 5 (a)] τ (w, σ') := h
          replace h := ei_put h rfl
          obtain ⟨ht4, f, g, h⟩ := h
          replace hf := Nat.lt_trans g hf
          clear g
          replace h : EV F f 82 z82 65 [some (rf 5 (a)), some (.inl (p)), some (.inl (i))] [] (m_set τ 5 (a) 2 (.inl ((m_i τ 5 (a) (2)) + (Int32.ofInt 1)))) (w, σ') := h
          have e := ei_ret h rfl
          cases e
          have ei : i.toInt = p.toInt := by have := hp1; have := hp3; omega
          have ec : ((m_i τ 5 (a) (2)) + (Int32.ofInt 1)).toInt = (n : Int) + 1 := by rw [hc, i_inc (by omega) (by omega)]; omega
          refine ⟨rfl, (hT.mono (fun c j k z => Or.inr z)).set (Or.inl ⟨rfl, rfl, rfl⟩), by rw [mi_si, if_pos ⟨rfl, rfl, rfl⟩]; exact ec, fun j hj => ?_, fun j hj hj2 => ?_⟩
          · have g := i3 j (by omega)
            exact ⟨(mi_si.trans (if_neg (fun z => by cases z.1))).trans g.1, (mi_si.trans (if_neg (fun z => by cases z.1))).trans g.2⟩
          · have g := i4 j (by omega) hj2
            exact ⟨(mi_si.trans (if_neg (fun z => by cases z.1))).trans g.1, (mi_si.trans (if_neg (fun z => by cases z.1))).trans g.2⟩
        · skip
          replace hp3 : ¬ ((i).toInt ≤ (0 : Int)) := (not_congr ic_le).mp hp3
          replace hf := Nat.lt_trans g hf
          clear g
          replace h : EV F f 82 z82 14 [some (rf 5 (a)), some (.inl (p)), some (.inl (i))] [] τ (w, σ') := h
          replace h := ei_p h rfl rfl rfl rfl
          obtain ⟨f, g, h⟩ := h
          replace hf := Nat.lt_trans g hf
          clear g
          replace h : EV F f 82 z82 15 [some (rf 5 (a)), some (.inl (p)), some (.inl (i))] [.inl (i)] τ (w, σ') := h
          replace h := ei_p h rfl rfl rfl rfl
          obtain ⟨f, g, h⟩ := h
          replace hf := Nat.lt_trans g hf
          clear g
          replace h : EV F f 82 z82 18 [some (rf 5 (a)), some (.inl (p)), some (.inl (i))] [.inl (Int32.ofInt 480), .inl (i)] τ (w, σ') := h
          replace h := ei_c h rfl rfl rfl
          rcases h with ⟨hp5, f, g, h⟩ | ⟨hp5, f, g, h⟩
          · skip
            replace hp5 : (480 : Int) ≤ (i).toInt := ic_ge.mp hp5
            replace hf := Nat.lt_trans g hf
            clear g
            replace h : EV F f 82 z82 55 [some (rf 5 (a)), some (.inl (p)), some (.inl (i))] [] τ (w, σ') := h
            replace h := ei_p h rfl rfl rfl rfl
            obtain ⟨f, g, h⟩ := h
            replace hf := Nat.lt_trans g hf
            clear g
            replace h : EV F f 82 z82 56 [some (rf 5 (a)), some (.inl (p)), some (.inl (i))] [rf 5 (a)] τ (w, σ') := h
            replace h := ei_p h rfl rfl rfl rfl
            obtain ⟨f, g, h⟩ := h
            replace hf := Nat.lt_trans g hf
            clear g
            replace h : EV F f 82 z82 57 [some (rf 5 (a)), some (.inl (p)), some (.inl (i))] [rf 5 (a), rf 5 (a)] τ (w, σ') := h
            replace h := ei_get h rfl rfl
            obtain ⟨f, g, h⟩ := h
            replace hf := Nat.lt_trans g hf
            clear g
            replace h : EV F f 82 z82 60 [some (rf 5 (a)), some (.inl (p)), some (.inl (i))] [.inl (m_i τ 5 (a) (2)), rf 5 (a)] τ (w, σ') := h
            replace h := ei_p h rfl rfl rfl rfl
            obtain ⟨f, g, h⟩ := h
            replace hf := Nat.lt_trans g hf
            clear g
            replace h : EV F f 82 z82 61 [some (rf 5 (a)), some (.inl (p)), some (.inl (i))] [.inl (Int32.ofInt 1), .inl (m_i τ 5 (a) (2)), rf 5 (a)] τ (w, σ') := h
            replace h := ei_p h rfl rfl rfl rfl
            obtain ⟨f, g, h⟩ := h
            replace hf := Nat.lt_trans g hf
            clear g
            replace h : EV F f 82 z82 62 [some (rf 5 (a)), some (.inl (p)), some (.inl (i))] [.inl ((m_i τ 5 (a) (2)) + (Int32.ofInt 1)), rf 5 (a)] τ (w, σ') := h
            replace h := ei_put h rfl
            obtain ⟨ht6, f, g, h⟩ := h
            replace hf := Nat.lt_trans g hf
            clear g
            replace h : EV F f 82 z82 65 [some (rf 5 (a)), some (.inl (p)), some (.inl (i))] [] (m_set τ 5 (a) 2 (.inl ((m_i τ 5 (a) (2)) + (Int32.ofInt 1)))) (w, σ') := h
            have e := ei_ret h rfl
            cases e
            have ei : i.toInt = p.toInt := by have := hp1; have := hp3; have := hp5; omega
            have ec : ((m_i τ 5 (a) (2)) + (Int32.ofInt 1)).toInt = (n : Int) + 1 := by rw [hc, i_inc (by omega) (by omega)]; omega
            refine ⟨rfl, (hT.mono (fun c j k z => Or.inr z)).set (Or.inl ⟨rfl, rfl, rfl⟩), by rw [mi_si, if_pos ⟨rfl, rfl, rfl⟩]; exact ec, fun j hj => ?_, fun j hj hj2 => ?_⟩
            · have g := i3 j (by omega)
              exact ⟨(mi_si.trans (if_neg (fun z => by cases z.1))).trans g.1, (mi_si.trans (if_neg (fun z => by cases z.1))).trans g.2⟩
            · have g := i4 j (by omega) hj2
              exact ⟨(mi_si.trans (if_neg (fun z => by cases z.1))).trans g.1, (mi_si.trans (if_neg (fun z => by cases z.1))).trans g.2⟩
          · skip
            replace hp5 : ¬ ((480 : Int) ≤ (i).toInt) := (not_congr ic_ge).mp hp5
            replace hf := Nat.lt_trans g hf
            clear g
            replace h : EV F f 82 z82 21 [some (rf 5 (a)), some (.inl (p)), some (.inl (i))] [] τ (w, σ') := h
            replace h := ei_p h rfl rfl rfl rfl
            obtain ⟨f, g, h⟩ := h
            replace hf := Nat.lt_trans g hf
            clear g
            replace h : EV F f 82 z82 22 [some (rf 5 (a)), some (.inl (p)), some (.inl (i))] [rf 5 (a)] τ (w, σ') := h
            replace h := ei_get h rfl ((hT.get (c := 5) (i := a) (k := 0) l13_5).trans hv.1)
            obtain ⟨f, g, h⟩ := h
            replace hf := Nat.lt_trans g hf
            clear g
            replace h : EV F f 82 z82 25 [some (rf 5 (a)), some (.inl (p)), some (.inl (i))] [rf 13 (ka)] τ (w, σ') := h
            replace h := ei_p h rfl rfl rfl rfl
            obtain ⟨f, g, h⟩ := h
            replace hf := Nat.lt_trans g hf
            clear g
            replace h : EV F f 82 z82 26 [some (rf 5 (a)), some (.inl (p)), some (.inl (i))] [.inl (i), rf 13 (ka)] τ (w, σ') := h
            replace h := ei_p h rfl rfl rfl rfl
            obtain ⟨f, g, h⟩ := h
            replace hf := Nat.lt_trans g hf
            clear g
            replace h : EV F f 82 z82 27 [some (rf 5 (a)), some (.inl (p)), some (.inl (i))] [rf 5 (a), .inl (i), rf 13 (ka)] τ (w, σ') := h
            replace h := ei_get h rfl ((hT.get (c := 5) (i := a) (k := 0) l13_5).trans hv.1)
            obtain ⟨f, g, h⟩ := h
            replace hf := Nat.lt_trans g hf
            clear g
            replace h : EV F f 82 z82 30 [some (rf 5 (a)), some (.inl (p)), some (.inl (i))] [rf 13 (ka), .inl (i), rf 13 (ka)] τ (w, σ') := h
            replace h := ei_p h rfl rfl rfl rfl
            obtain ⟨f, g, h⟩ := h
            replace hf := Nat.lt_trans g hf
            clear g
            replace h : EV F f 82 z82 31 [some (rf 5 (a)), some (.inl (p)), some (.inl (i))] [.inl (i), rf 13 (ka), .inl (i), rf 13 (ka)] τ (w, σ') := h
            replace h := ei_p h rfl rfl rfl rfl
            obtain ⟨f, g, h⟩ := h
            replace hf := Nat.lt_trans g hf
            clear g
            replace h : EV F f 82 z82 32 [some (rf 5 (a)), some (.inl (p)), some (.inl (i))] [.inl (Int32.ofInt 1), .inl (i), rf 13 (ka), .inl (i), rf 13 (ka)] τ (w, σ') := h
            replace h := ei_p h rfl rfl rfl rfl
            obtain ⟨f, g, h⟩ := h
            replace hf := Nat.lt_trans g hf
            clear g
            replace h : EV F f 82 z82 33 [some (rf 5 (a)), some (.inl (p)), some (.inl (i))] [.inl ((i) - (Int32.ofInt 1)), rf 13 (ka), .inl (i), rf 13 (ka)] τ (w, σ') := h
            replace h := ei_iald h rfl (fun _ => rfl)
            obtain ⟨vp7, f, g, h⟩ := h
            replace hf := Nat.lt_trans g hf
            clear g
            replace h : EV F f 82 z82 34 [some (rf 5 (a)), some (.inl (p)), some (.inl (i))] [.inl (m_i τ 13 ka ((i) - (Int32.ofInt 1)).toNatClampNeg), .inl (i), rf 13 (ka)] τ (w, σ') := h
            replace vp7 := vp_ok.mp vp7
            replace h := ei_iast h rfl
            obtain ⟨vp8, f, g, h⟩ := h
            replace hf := Nat.lt_trans g hf
            clear g
            replace h : EV F f 82 z82 35 [some (rf 5 (a)), some (.inl (p)), some (.inl (i))] [] (m_set τ 13 (ka) (i).toNatClampNeg (.inl (m_i τ 13 ka ((i) - (Int32.ofInt 1)).toNatClampNeg))) (w, σ') := h
            replace vp8 := vp_ok.mp vp8
            replace h := ei_p h rfl rfl rfl rfl
            obtain ⟨f, g, h⟩ := h
            replace hf := Nat.lt_trans g hf
            clear g
            replace h : EV F f 82 z82 36 [some (rf 5 (a)), some (.inl (p)), some (.inl (i))] [rf 5 (a)] (m_set τ 13 (ka) (i).toNatClampNeg (.inl (m_i τ 13 ka ((i) - (Int32.ofInt 1)).toNatClampNeg))) (w, σ') := h
            replace h := ei_get h rfl ((m_get_ne _ _ (fun z => by cases z.1)).trans ((hT.get (c := 5) (i := a) (k := 1) l13_5).trans hv.2.1))
            obtain ⟨f, g, h⟩ := h
            replace hf := Nat.lt_trans g hf
            clear g
            replace h : EV F f 82 z82 39 [some (rf 5 (a)), some (.inl (p)), some (.inl (i))] [rf 13 (qa)] (m_set τ 13 (ka) (i).toNatClampNeg (.inl (m_i τ 13 ka ((i) - (Int32.ofInt 1)).toNatClampNeg))) (w, σ') := h
            replace h := ei_p h rfl rfl rfl rfl
            obtain ⟨f, g, h⟩ := h
            replace hf := Nat.lt_trans g hf
            clear g
            replace h : EV F f 82 z82 40 [some (rf 5 (a)), some (.inl (p)), some (.inl (i))] [.inl (i), rf 13 (qa)] (m_set τ 13 (ka) (i).toNatClampNeg (.inl (m_i τ 13 ka ((i) - (Int32.ofInt 1)).toNatClampNeg))) (w, σ') := h
            replace h := ei_p h rfl rfl rfl rfl
            obtain ⟨f, g, h⟩ := h
            replace hf := Nat.lt_trans g hf
            clear g
            replace h : EV F f 82 z82 41 [some (rf 5 (a)), some (.inl (p)), some (.inl (i))] [rf 5 (a), .inl (i), rf 13 (qa)] (m_set τ 13 (ka) (i).toNatClampNeg (.inl (m_i τ 13 ka ((i) - (Int32.ofInt 1)).toNatClampNeg))) (w, σ') := h
            replace h := ei_get h rfl ((m_get_ne _ _ (fun z => by cases z.1)).trans ((hT.get (c := 5) (i := a) (k := 1) l13_5).trans hv.2.1))
            obtain ⟨f, g, h⟩ := h
            replace hf := Nat.lt_trans g hf
            clear g
            replace h : EV F f 82 z82 44 [some (rf 5 (a)), some (.inl (p)), some (.inl (i))] [rf 13 (qa), .inl (i), rf 13 (qa)] (m_set τ 13 (ka) (i).toNatClampNeg (.inl (m_i τ 13 ka ((i) - (Int32.ofInt 1)).toNatClampNeg))) (w, σ') := h
            replace h := ei_p h rfl rfl rfl rfl
            obtain ⟨f, g, h⟩ := h
            replace hf := Nat.lt_trans g hf
            clear g
            replace h : EV F f 82 z82 45 [some (rf 5 (a)), some (.inl (p)), some (.inl (i))] [.inl (i), rf 13 (qa), .inl (i), rf 13 (qa)] (m_set τ 13 (ka) (i).toNatClampNeg (.inl (m_i τ 13 ka ((i) - (Int32.ofInt 1)).toNatClampNeg))) (w, σ') := h
            replace h := ei_p h rfl rfl rfl rfl
            obtain ⟨f, g, h⟩ := h
            replace hf := Nat.lt_trans g hf
            clear g
            replace h : EV F f 82 z82 46 [some (rf 5 (a)), some (.inl (p)), some (.inl (i))] [.inl (Int32.ofInt 1), .inl (i), rf 13 (qa), .inl (i), rf 13 (qa)] (m_set τ 13 (ka) (i).toNatClampNeg (.inl (m_i τ 13 ka ((i) - (Int32.ofInt 1)).toNatClampNeg))) (w, σ') := h
            replace h := ei_p h rfl rfl rfl rfl
            obtain ⟨f, g, h⟩ := h
            replace hf := Nat.lt_trans g hf
            clear g
            replace h : EV F f 82 z82 47 [some (rf 5 (a)), some (.inl (p)), some (.inl (i))] [.inl ((i) - (Int32.ofInt 1)), rf 13 (qa), .inl (i), rf 13 (qa)] (m_set τ 13 (ka) (i).toNatClampNeg (.inl (m_i τ 13 ka ((i) - (Int32.ofInt 1)).toNatClampNeg))) (w, σ') := h
            replace h := ei_iald h rfl (fun _ => ((mi_si.trans (if_neg (fun z => hkq z.2.1.symm))).trans rfl))
            obtain ⟨vp9, f, g, h⟩ := h
            replace hf := Nat.lt_trans g hf
            clear g
            replace h : EV F f 82 z82 48 [some (rf 5 (a)), some (.inl (p)), some (.inl (i))] [.inl (m_i τ 13 qa ((i) - (Int32.ofInt 1)).toNatClampNeg), .inl (i), rf 13 (qa)] (m_set τ 13 (ka) (i).toNatClampNeg (.inl (m_i τ 13 ka ((i) - (Int32.ofInt 1)).toNatClampNeg))) (w, σ') := h
            replace vp9 := vp_lo vp9
            replace h := ei_iast h rfl
            obtain ⟨vp10, f, g, h⟩ := h
            replace hf := Nat.lt_trans g hf
            clear g
            replace h : EV F f 82 z82 49 [some (rf 5 (a)), some (.inl (p)), some (.inl (i))] [] (m_set (m_set τ 13 (ka) (i).toNatClampNeg (.inl (m_i τ 13 ka ((i) - (Int32.ofInt 1)).toNatClampNeg))) 13 (qa) (i).toNatClampNeg (.inl (m_i τ 13 qa ((i) - (Int32.ofInt 1)).toNatClampNeg))) (w, σ') := h
            replace vp10 := vp_lo vp10
            replace h := ei_p h rfl rfl rfl rfl
            obtain ⟨f, g, h⟩ := h
            replace hf := Nat.lt_trans g hf
            clear g
            replace h : EV F f 82 z82 52 [some (rf 5 (a)), some (.inl (p)), some (.inl ((i) + Int32.ofInt (-1)))] [] (m_set (m_set τ 13 (ka) (i).toNatClampNeg (.inl (m_i τ 13 ka ((i) - (Int32.ofInt 1)).toNatClampNeg))) 13 (qa) (i).toNatClampNeg (.inl (m_i τ 13 qa ((i) - (Int32.ofInt 1)).toNatClampNeg))) (w, σ') := h
            replace h := ei_p h rfl rfl rfl rfl
            obtain ⟨f, g, h⟩ := h
            replace hf := Nat.lt_trans g hf
            clear g
            replace h : EV F f 82 z82 5 [some (rf 5 (a)), some (.inl (p)), some (.inl ((i) + Int32.ofInt (-1)))] [] (m_set (m_set τ 13 (ka) (i).toNatClampNeg (.inl (m_i τ 13 ka ((i) - (Int32.ofInt 1)).toNatClampNeg))) 13 (qa) (i).toNatClampNeg (.inl (m_i τ 13 qa ((i) - (Int32.ofInt 1)).toNatClampNeg))) (w, σ') := h
            have ip : 0 < i.toInt := by have := hp1; have := hp3; have := hp5; omega
            have pi : p.toInt < i.toInt := by have := hp1; have := hp3; have := hp5; omega
            have e2 := i_dec (a := i) (by omega) (by omega)
            obtain ⟨iw, hw⟩ : ∃ iw, iw = i + Int32.ofInt (-1) := ⟨_, rfl⟩
            have e1 : iw.toInt = i.toInt - 1 := by rw [hw]; exact i_inc' (by omega) (by omega)
            rw [← hw] at h
            clear hw
            generalize i - Int32.ofInt 1 = u at *
            have n1 := i_nat (a := i) (by omega)
            have n2 := i_nat (a := u) (by omega)
            generalize hT0 : (m_set (m_set τ 13 (ka) (i).toNatClampNeg (.inl (m_i τ 13 ka (u).toNatClampNeg))) 13 (qa) (i).toNatClampNeg (.inl (m_i τ 13 qa (u).toNatClampNeg))) = T at h
            have hT2 : fr3 (l13 ka qa) σ T := by
              rw [← hT0]
              exact (hT.set (c := 13) (i := ka) (k := (i).toNatClampNeg) (v := .inl (m_i τ 13 ka (u).toNatClampNeg)) ⟨rfl, Or.inl rfl⟩).set (c := 13) (i := qa) (k := (i).toNatClampNeg) (v := .inl (m_i τ 13 qa (u).toNatClampNeg)) ⟨rfl, Or.inr rfl⟩
            have kT : ∀ j, m_i T 13 ka j = if j = (i).toNatClampNeg then m_i τ 13 ka (u).toNatClampNeg else m_i τ 13 ka j := by
              intro j
              rw [← hT0]
              exact l2_k hkq
            have qT : ∀ j, m_i T 13 qa j = if j = (i).toNatClampNeg then m_i τ 13 qa (u).toNatClampNeg else m_i τ 13 qa j := by
              intro j
              rw [← hT0]
              exact l2_q hkq
            clear hT0
            have d3 : ∀ j : Nat, (j : Int) ≤ iw.toInt → m_i T 13 ka j = m_i σ 13 ka j ∧ m_i T 13 qa j = m_i σ 13 qa j := by
              intro j hj
              rw [e1] at hj
              rw [kT, qT, if_neg (by omega), if_neg (by omega)]
              exact i3 j (by omega)
            have d4 : ∀ j : Nat, iw.toInt ≤ j → j < n → m_i T 13 ka (j + 1) = m_i σ 13 ka j ∧ m_i T 13 qa (j + 1) = m_i σ 13 qa j := by
              intro j hj hj2
              rw [e1] at hj
              rw [kT, qT]
              by_cases c : j + 1 = (i).toNatClampNeg
              · rw [if_pos c, if_pos c]
                have ej : u.toNatClampNeg = j := by omega
                rw [ej]
                exact i3 j (by omega)
              · rw [if_neg c, if_neg c]
                exact i4 j (by omega) hj2
            exact IH f hf iw T hT2 (by rw [e1]; omega) (by rw [e1]; omega) d3 d4 h
  replace h : EV F f 82 z82 0 [some (rf 5 (a)), some (.inl (p)), none] [] σ (w, σ') := h
  replace h := ei_p h rfl rfl rfl rfl
  obtain ⟨f, g, h⟩ := h
  clear g
  replace h : EV F f 82 z82 1 [some (rf 5 (a)), some (.inl (p)), none] [rf 5 (a)] σ (w, σ') := h
  replace h := ei_get h rfl rfl
  obtain ⟨f, g, h⟩ := h
  clear g
  replace h : EV F f 82 z82 4 [some (rf 5 (a)), some (.inl (p)), none] [.inl (m_i σ 5 (a) (2))] σ (w, σ') := h
  replace h := ei_p h rfl rfl rfl rfl
  obtain ⟨f, g, h⟩ := h
  clear g
  replace h : EV F f 82 z82 5 [some (rf 5 (a)), some (.inl (p)), some (.inl (m_i σ 5 (a) (2)))] [] σ (w, σ') := h
  refine loop (f + 1) f (Nat.lt_succ_self f) (m_i σ 5 a 2) σ fr3.rf (by omega) (by omega) (fun j _ => ⟨rfl, rfl⟩) (fun j h1 h2 => by omega) h
