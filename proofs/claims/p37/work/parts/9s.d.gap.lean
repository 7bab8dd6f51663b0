/-! levels: gaps are closed -/
theorem s83 {σ σ' : mS} {a ka qa n : Nat} {p : Int32} {w : mX} (hv : lv σ a ka qa n) (hp : 0 ≤ p.toInt ∧ p.toInt < n) (h : ev_run sm_all 83 [rf 5 a, .inl p] σ w σ') : w = .inl none ∧ fr3 (l5 a ka qa) σ σ' ∧ (m_i σ' 5 a 2).toInt = (n : Int) - 1 ∧ (∀ j : Nat, (j : Int) < p.toInt → m_i σ' 13 ka j = m_i σ 13 ka j ∧ m_i σ' 13 qa j = m_i σ 13 qa j) ∧ ∀ j : Nat, p.toInt ≤ j → (j : Int) + 1 < n → m_i σ' 13 ka j = m_i σ 13 ka (j + 1) ∧ m_i σ' 13 qa j = m_i σ 13 qa (j + 1) := by
  obtain ⟨F, f, h⟩ := ei_go h z83_at
  have hn := hv.2.2.2.2.1
  have hn4 := hv.2.2.2.2.2.1
  have hkq := hv.2.2.2.2.2.2
  have loop : ∀ N f, f < N → ∀ (i : Int32) (τ : mS), fr3 (l13 ka qa) σ τ → p.toInt ≤ i.toInt → i.toInt < n → (∀ j : Nat, (j : Int) < p.toInt → m_i τ 13 ka j = m_i σ 13 ka j ∧ m_i τ 13 qa j = m_i σ 13 qa j) → (∀ j : Nat, p.toInt ≤ j → (j : Int) < i.toInt → m_i τ 13 ka j = m_i σ 13 ka (j + 1) ∧ m_i τ 13 qa j = m_i σ 13 qa (j + 1)) → (∀ j : Nat, i.toInt ≤ j → m_i τ 13 ka j = m_i σ 13 ka j ∧ m_i τ 13 qa j = m_i σ 13 qa j) → EV F f 83 z83 2 [some (rf 5 a), some (.inl p), some (.inl i)] [] τ (w, σ') → w = .inl none ∧ fr3 (l5 a ka qa) σ σ' ∧ (m_i σ' 5 a 2).toInt = (n : Int) - 1 ∧ (∀ j : Nat, (j : Int) < p.toInt → m_i σ' 13 ka j = m_i σ 13 ka j ∧ m_i σ' 13 qa j = m_i σ 13 qa j) ∧ ∀ j : Nat, p.toInt ≤ j → (j : Int) + 1 < n → m_i σ' 13 ka j = m_i σ 13 ka (j + 1) ∧ m_i σ' 13 qa j = m_i σ 13 qa (j + 1) := by
    intro N
    induction N with
    | zero => intro f hf; omega
    | succ N IH =>
      intro f hf0 i τ hT i1 i2 i3 i4 i5 h
      have hf : f < N + 1 := hf0
      clear hf0
      have hc : m_i τ 5 a 2 = m_i σ 5 a 2 := (hT.2.2 5 a 2 l13_5).1
      have ib := i_b i
      have e1 := i_inc (a := i) (by omega) (by omega)
      replace h := ei_p h rfl rfl rfl rfl
      obtain ⟨f, g, h⟩ := h
      replace hf := Nat.lt_of_lt_of_le g (Nat.le_of_lt_succ hf)
      clear g
      replace h : EV F f 83 z83 3 [some (rf 5 (a)), some (.inl (p)), some (.inl (i))] [.inl (i)] τ (w, σ') := h
      replace h := ei_c h rfl rfl rfl
      rcases h with ⟨hp1, f, g, h⟩ | ⟨hp1, f, g, h⟩
      · skip
        replace hp1 : (i).toInt < (0 : Int) := ic_lt.mp hp1
        replace hf := Nat.lt_trans g hf
        clear g
        replace h : EV F f 83 z83 59 [some (rf 5 (a)), some (.inl (p)), some (.inl (i))] [] τ (w, σ') := h
        replace h := ei_p h rfl rfl rfl rfl
        obtain ⟨f, g, h⟩ := h
        replace hf := Nat.lt_trans g hf
        clear g
        replace h : EV F f 83 z83 60 [some (rf 5 (a)), some (.inl (p)), some (.inl (i))] [rf 5 (a)] τ (w, σ') := h
        replace h := ei_p h rfl rfl rfl rfl
        obtain ⟨f, g, h⟩ := h
        replace hf := Nat.lt_trans g hf
        clear g
        replace h : EV F f 83 z83 61 [some (rf 5 (a)), some (.inl (p)), some (.inl (i))] [rf 5 (a), rf 5 (a)] τ (w, σ') := h
        replace h := ei_get h rfl rfl
        obtain ⟨f, g, h⟩ := h
        replace hf := Nat.lt_trans g hf
        clear g
        replace h : EV F f 83 z83 64 [some (rf 5 (a)), some (.inl (p)), some (.inl (i))] [.inl (m_i τ 5 (a) (2)), rf 5 (a)] τ (w, σ') := h
        replace h := ei_p h rfl rfl rfl rfl
        obtain ⟨f, g, h⟩ := h
        replace hf := Nat.lt_trans g hf
        clear g
        replace h : EV F f 83 z83 65 [some (rf 5 (a)), some (.inl (p)), some (.inl (i))] [.inl (Int32.ofInt 1), .inl (m_i τ 5 (a) (2)), rf 5 (a)] τ (w, σ') := h
        replace h := ei_p h rfl rfl rfl rfl
        obtain ⟨f, g, h⟩ := h
        replace hf := Nat.lt_trans g hf
        clear g
        replace h : EV F f 83 z83 66 [some (rf 5 (a)), some (.inl (p)), some (.inl (i))] [.inl ((m_i τ 5 (a) (2)) - (Int32.ofInt 1)), rf 5 (a)] τ (w, σ') := h
        replace h := ei_put h rfl
        obtain ⟨ht2, f, g, h⟩ := h
        replace hf := Nat.lt_trans g hf
        clear g
        replace h : EV F f 83 z83 69 [some (rf 5 (a)), some (.inl (p)), some (.inl (i))] [] (m_set τ 5 (a) 2 (.inl ((m_i τ 5 (a) (2)) - (Int32.ofInt 1)))) (w, σ') := h
        have e := ei_ret h rfl
        cases e
        have ec : ((m_i τ 5 (a) (2)) - (Int32.ofInt 1)).toInt = (n : Int) - 1 := by rw [hc, i_dec (by omega) (by omega)]; omega
        have nc : (n : Int) ≤ i.toInt + 1 := by (try rw [hc] at hp1); (try rw [hc] at hp3); (try rw [hc] at hp5); omega
        refine ⟨rfl, (hT.mono (fun c j k z => Or.inr z)).set (Or.inl ⟨rfl, rfl, rfl⟩), by rw [mi_si, if_pos ⟨rfl, rfl, rfl⟩]; exact ec, fun j hj => ?_, fun j hj hj2 => ?_⟩
        · have g := i3 j hj
          exact ⟨(mi_si.trans (if_neg (fun z => by cases z.1))).trans g.1, (mi_si.trans (if_neg (fun z => by cases z.1))).trans g.2⟩
        · have g := i4 j hj (by omega)
          exact ⟨(mi_si.trans (if_neg (fun z => by cases z.1))).trans g.1, (mi_si.trans (if_neg (fun z => by cases z.1))).trans g.2⟩
      · skip
        replace hp1 : ¬ ((i).toInt < (0 : Int)) := (not_congr ic_lt).mp hp1
        replace hf := Nat.lt_trans g hf
        clear g
        replace h : EV F f 83 z83 6 [some (rf 5 (a)), some (.inl (p)), some (.inl (i))] [] τ (w, σ') := h
        replace h := ei_p h rfl rfl rfl rfl
        obtain ⟨f, g, h⟩ := h
        replace hf := Nat.lt_trans g hf
        clear g
        replace h : EV F f 83 z83 7 [some (rf 5 (a)), some (.inl (p)), some (.inl (i))] [.inl (i)] τ (w, σ') := h
        replace h := ei_p h rfl rfl rfl rfl
        obtain ⟨f, g, h⟩ := h
        replace hf := Nat.lt_trans g hf
        clear g
        replace h : EV F f 83 z83 8 [some (rf 5 (a)), some (.inl (p)), some (.inl (i))] [.inl (Int32.ofInt 1), .inl (i)] τ (w, σ') := h
        replace h := ei_p h rfl rfl rfl rfl
        obtain ⟨f, g, h⟩ := h
        replace hf := Nat.lt_trans g hf
        clear g
        replace h : EV F f 83 z83 9 [some (rf 5 (a)), some (.inl (p)), some (.inl (i))] [.inl ((i) + (Int32.ofInt 1))] τ (w, σ') := h
        replace h := ei_p h rfl rfl rfl rfl
        obtain ⟨f, g, h⟩ := h
        replace hf := Nat.lt_trans g hf
        clear g
        replace h : EV F f 83 z83 10 [some (rf 5 (a)), some (.inl (p)), some (.inl (i))] [rf 5 (a), .inl ((i) + (Int32.ofInt 1))] τ (w, σ') := h
        replace h := ei_get h rfl rfl
        obtain ⟨f, g, h⟩ := h
        replace hf := Nat.lt_trans g hf
        clear g
        replace h : EV F f 83 z83 13 [some (rf 5 (a)), some (.inl (p)), some (.inl (i))] [.inl (m_i τ 5 (a) (2)), .inl ((i) + (Int32.ofInt 1))] τ (w, σ') := h
        replace h := ei_c h rfl rfl rfl
        rcases h with ⟨hp3, f, g, h⟩ | ⟨hp3, f, g, h⟩
        · skip
          replace hp3 : (m_i τ 5 (a) (2)).toInt ≤ ((i) + (Int32.ofInt 1)).toInt := ic_ge.mp hp3
          replace hf := Nat.lt_trans g hf
          clear g
          replace h : EV F f 83 z83 59 [some (rf 5 (a)), some (.inl (p)), some (.inl (i))] [] τ (w, σ') := h
          replace h := ei_p h rfl rfl rfl rfl
          obtain ⟨f, g, h⟩ := h
          replace hf := Nat.lt_trans g hf
          clear g
          replace h : EV F f 83 z83 60 [some (rf 5 (a)), some (.inl (p)), some (.inl (i))] [rf 5 (a)] τ (w, σ') := h
          replace h := ei_p h rfl rfl rfl rfl
          obtain ⟨f, g, h⟩ := h
          replace hf := Nat.lt_trans g hf
          clear g
          replace h : EV F f 83 z83 61 [some (rf 5 (a)), some (.inl (p)), some (.inl (i))] [rf 5 (a), rf 5 (a)] τ (w, σ') := h
          replace h := ei_get h rfl rfl
          obtain ⟨f, g, h⟩ := h
          replace hf := Nat.lt_trans g hf
          clear g
          replace h : EV F f 83 z83 64 [some (rf 5 (a)), some (.inl (p)), some (.inl (i))] [.inl (m_i τ 5 (a) (2)), rf 5 (a)] τ (w, σ') := h
          replace h := ei_p h rfl rfl rfl rfl
          obtain ⟨f, g, h⟩ := h
          replace hf := Nat.lt_trans g hf
          clear g
          replace h : EV F f 83 z83 65 [some (rf 5 (a)), some (.inl (p)), some (.inl (i))] [.inl (Int32.ofInt 1), .inl (m_i τ 5 (a) (2)), rf 5 (a)] τ (w, σ') := h
          replace h := ei_p h rfl rfl rfl rfl
          obtain ⟨f, g, h⟩ := h
          replace hf := Nat.lt_trans g hf
          clear g
          replace h : EV F f 83 z83 66 [some (rf 5 (a)), some (.inl (p)), some (.inl (i))] [.inl ((m_i τ 5 (a) (2)) - (Int32.ofInt 1)), rf 5 (a)] τ (w, σ') := h
          replace h := ei_put h rfl
          obtain ⟨ht4, f, g, h⟩ := h
          replace hf := Nat.lt_trans g hf
          clear g
          replace h : EV F f 83 z83 69 [some (rf 5 (a)), some (.inl (p)), some (.inl (i))] [] (m_set τ 5 (a) 2 (.inl ((m_i τ 5 (a) (2)) - (Int32.ofInt 1)))) (w, σ') := h
          have e := ei_ret h rfl
          cases e
          have ec : ((m_i τ 5 (a) (2)) - (Int32.ofInt 1)).toInt = (n : Int) - 1 := by rw [hc, i_dec (by omega) (by omega)]; omega
          have nc : (n : Int) ≤ i.toInt + 1 := by (try rw [hc] at hp1); (try rw [hc] at hp3); (try rw [hc] at hp5); omega
          refine ⟨rfl, (hT.mono (fun c j k z => Or.inr z)).set (Or.inl ⟨rfl, rfl, rfl⟩), by rw [mi_si, if_pos ⟨rfl, rfl, rfl⟩]; exact ec, fun j hj => ?_, fun j hj hj2 => ?_⟩
          · have g := i3 j hj
            exact ⟨(mi_si.trans (if_neg (fun z => by cases z.1))).trans g.1, (mi_si.trans (if_neg (fun z => by cases z.1))).trans g.2⟩
          · have g := i4 j hj (by omega)
            exact ⟨(mi_si.trans (if_neg (fun z => by cases z.1))).trans g.1, (mi_si.trans (if_neg (fun z => by cases z.1))).trans g.2⟩
        · skip
          replace hp3 : ¬ ((m_i τ 5 (a) (2)).toInt ≤ ((i) + (Int32.ofInt 1)).toInt) := (not_congr ic_ge).mp hp3
          replace hf := Nat.lt_trans g hf
          clear g
          replace h : EV F f 83 z83 16 [some (rf 5 (a)), some (.inl (p)), some (.inl (i))] [] τ (w, σ') := h
          replace h := ei_p h rfl rfl rfl rfl
          obtain ⟨f, g, h⟩ := h
          replace hf := Nat.lt_trans g hf
          clear g
          replace h : EV F f 83 z83 17 [some (rf 5 (a)), some (.inl (p)), some (.inl (i))] [.inl (i)] τ (w, σ') := h
          replace h := ei_p h rfl rfl rfl rfl
          obtain ⟨f, g, h⟩ := h
          replace hf := Nat.lt_trans g hf
          clear g
          replace h : EV F f 83 z83 18 [some (rf 5 (a)), some (.inl (p)), some (.inl (i))] [.inl (Int32.ofInt 1), .inl (i)] τ (w, σ') := h
          replace h := ei_p h rfl rfl rfl rfl
          obtain ⟨f, g, h⟩ := h
          replace hf := Nat.lt_trans g hf
          clear g
          replace h : EV F f 83 z83 19 [some (rf 5 (a)), some (.inl (p)), some (.inl (i))] [.inl ((i) + (Int32.ofInt 1))] τ (w, σ') := h
          replace h := ei_p h rfl rfl rfl rfl
          obtain ⟨f, g, h⟩ := h
          replace hf := Nat.lt_trans g hf
          clear g
          replace h : EV F f 83 z83 22 [some (rf 5 (a)), some (.inl (p)), some (.inl (i))] [.inl (Int32.ofInt 480), .inl ((i) + (Int32.ofInt 1))] τ (w, σ') := h
          replace h := ei_c h rfl rfl rfl
          rcases h with ⟨hp5, f, g, h⟩ | ⟨hp5, f, g, h⟩
          · skip
            replace hp5 : (480 : Int) ≤ ((i) + (Int32.ofInt 1)).toInt := ic_ge.mp hp5
            replace hf := Nat.lt_trans g hf
            clear g
            replace h : EV F f 83 z83 59 [some (rf 5 (a)), some (.inl (p)), some (.inl (i))] [] τ (w, σ') := h
            replace h := ei_p h rfl rfl rfl rfl
            obtain ⟨f, g, h⟩ := h
            replace hf := Nat.lt_trans g hf
            clear g
            replace h : EV F f 83 z83 60 [some (rf 5 (a)), some (.inl (p)), some (.inl (i))] [rf 5 (a)] τ (w, σ') := h
            replace h := ei_p h rfl rfl rfl rfl
            obtain ⟨f, g, h⟩ := h
            replace hf := Nat.lt_trans g hf
            clear g
            replace h : EV F f 83 z83 61 [some (rf 5 (a)), some (.inl (p)), some (.inl (i))] [rf 5 (a), rf 5 (a)] τ (w, σ') := h
            replace h := ei_get h rfl rfl
            obtain ⟨f, g, h⟩ := h
            replace hf := Nat.lt_trans g hf
            clear g
            replace h : EV F f 83 z83 64 [some (rf 5 (a)), some (.inl (p)), some (.inl (i))] [.inl (m_i τ 5 (a) (2)), rf 5 (a)] τ (w, σ') := h
            replace h := ei_p h rfl rfl rfl rfl
            obtain ⟨f, g, h⟩ := h
            replace hf := Nat.lt_trans g hf
            clear g
            replace h : EV F f 83 z83 65 [some (rf 5 (a)), some (.inl (p)), some (.inl (i))] [.inl (Int32.ofInt 1), .inl (m_i τ 5 (a) (2)), rf 5 (a)] τ (w, σ') := h
            replace h := ei_p h rfl rfl rfl rfl
            obtain ⟨f, g, h⟩ := h
            replace hf := Nat.lt_trans g hf
            clear g
            replace h : EV F f 83 z83 66 [some (rf 5 (a)), some (.inl (p)), some (.inl (i))] [.inl ((m_i τ 5 (a) (2)) - (Int32.ofInt 1)), rf 5 (a)] τ (w, σ') := h
            replace h := ei_put h rfl
            obtain ⟨ht6, f, g, h⟩ := h
            replace hf := Nat.lt_trans g hf
            clear g
            replace h : EV F f 83 z83 69 [some (rf 5 (a)), some (.inl (p)), some (.inl (i))] [] (m_set τ 5 (a) 2 (.inl ((m_i τ 5 (a) (2)) - (Int32.ofInt 1)))) (w, σ') := h
            have e := ei_ret h rfl
            cases e
            have ec : ((m_i τ 5 (a) (2)) - (Int32.ofInt 1)).toInt = (n : Int) - 1 := by rw [hc, i_dec (by omega) (by omega)]; omega
            have nc : (n : Int) ≤ i.toInt + 1 := by (try rw [hc] at hp1); (try rw [hc] at hp3); (try rw [hc] at hp5); omega
            refine ⟨rfl, (hT.mono (fun c j k z => Or.inr z)).set (Or.inl ⟨rfl, rfl, rfl⟩), by rw [mi_si, if_pos ⟨rfl, rfl, rfl⟩]; exact ec, fun j hj => ?_, fun j hj hj2 => ?_⟩
            · have g := i3 j hj
              exact ⟨(mi_si.trans (if_neg (fun z => by cases z.1))).trans g.1, (mi_si.trans (if_neg (fun z => by cases z.1))).trans g.2⟩
            · have g := i4 j hj (by omega)
              exact ⟨(mi_si.trans (if_neg (fun z => by cases z.1))).trans g.1, (mi_si.trans (if_neg (fun z => by cases z.1))).trans g.2⟩
          · skip
            replace hp5 : ¬ ((480 : Int) ≤ ((i) + (Int32.ofInt 1)).toInt) := (not_congr ic_ge).mp hp5
            replace hf := Nat.lt_trans g hf
            clear g
            replace h : EV F f 83 z83 25 [some (rf 5 (a)), some (.inl (p)), some (.inl (i))] [] τ (w, σ') := h
            replace h := ei_p h rfl rfl rfl rfl
            obtain ⟨f, g, h⟩ := h
            replace hf := Nat.lt_trans g hf
            clear g
            replace h : EV F f 83 z83 26 [some (rf 5 (a)), some (.inl (p)), some (.inl (i))] [rf 5 (a)] τ (w, σ') := h
            replace h := ei_get h rfl ((hT.get (c := 5) (i := a) (k := 0) l13_5).trans hv.1)
            obtain ⟨f, g, h⟩ := h
            replace hf := Nat.lt_trans g hf
            clear g
            replace h : EV F f 83 z83 29 [some (rf 5 (a)), some (.inl (p)), some (.inl (i))] [rf 13 (ka)] τ (w, σ') := h
            replace h := ei_p h rfl rfl rfl rfl
            obtain ⟨f, g, h⟩ := h
            replace hf := Nat.lt_trans g hf
            clear g
            replace h : EV F f 83 z83 30 [some (rf 5 (a)), some (.inl (p)), some (.inl (i))] [.inl (i), rf 13 (ka)] τ (w, σ') := h
            replace h := ei_p h rfl rfl rfl rfl
            obtain ⟨f, g, h⟩ := h
            replace hf := Nat.lt_trans g hf
            clear g
            replace h : EV F f 83 z83 31 [some (rf 5 (a)), some (.inl (p)), some (.inl (i))] [rf 5 (a), .inl (i), rf 13 (ka)] τ (w, σ') := h
            replace h := ei_get h rfl ((hT.get (c := 5) (i := a) (k := 0) l13_5).trans hv.1)
            obtain ⟨f, g, h⟩ := h
            replace hf := Nat.lt_trans g hf
            clear g
            replace h : EV F f 83 z83 34 [some (rf 5 (a)), some (.inl (p)), some (.inl (i))] [rf 13 (ka), .inl (i), rf 13 (ka)] τ (w, σ') := h
            replace h := ei_p h rfl rfl rfl rfl
            obtain ⟨f, g, h⟩ := h
            replace hf := Nat.lt_trans g hf
            clear g
            replace h : EV F f 83 z83 35 [some (rf 5 (a)), some (.inl (p)), some (.inl (i))] [.inl (i), rf 13 (ka), .inl (i), rf 13 (ka)] τ (w, σ') := h
            replace h := ei_p h rfl rfl rfl rfl
            obtain ⟨f, g, h⟩ := h
            replace hf := Nat.lt_trans g hf
            clear g
            replace h : EV F f 83 z83 36 [some (rf 5 (a)), some (.inl (p)), some (.inl (i))] [.inl (Int32.ofInt 1), .inl (i), rf 13 (ka), .inl (i), rf 13 (ka)] τ (w, σ') := h
            replace h := ei_p h rfl rfl rfl rfl
            obtain ⟨f, g, h⟩ := h
            replace hf := Nat.lt_trans g hf
            clear g
            replace h : EV F f 83 z83 37 [some (rf 5 (a)), some (.inl (p)), some (.inl (i))] [.inl ((i) + (Int32.ofInt 1)), rf 13 (ka), .inl (i), rf 13 (ka)] τ (w, σ') := h
            replace h := ei_iald h rfl (fun _ => rfl)
            obtain ⟨vp7, f, g, h⟩ := h
            replace hf := Nat.lt_trans g hf
            clear g
            replace h : EV F f 83 z83 38 [some (rf 5 (a)), some (.inl (p)), some (.inl (i))] [.inl (m_i τ 13 ka ((i) + (Int32.ofInt 1)).toNatClampNeg), .inl (i), rf 13 (ka)] τ (w, σ') := h
            replace vp7 := vp_ok.mp vp7
            replace h := ei_iast h rfl
            obtain ⟨vp8, f, g, h⟩ := h
            replace hf := Nat.lt_trans g hf
            clear g
            replace h : EV F f 83 z83 39 [some (rf 5 (a)), some (.inl (p)), some (.inl (i))] [] (m_set τ 13 (ka) (i).toNatClampNeg (.inl (m_i τ 13 ka ((i) + (Int32.ofInt 1)).toNatClampNeg))) (w, σ') := h
            replace vp8 := vp_ok.mp vp8
            replace h := ei_p h rfl rfl rfl rfl
            obtain ⟨f, g, h⟩ := h
            replace hf := Nat.lt_trans g hf
            clear g
            replace h : EV F f 83 z83 40 [some (rf 5 (a)), some (.inl (p)), some (.inl (i))] [rf 5 (a)] (m_set τ 13 (ka) (i).toNatClampNeg (.inl (m_i τ 13 ka ((i) + (Int32.ofInt 1)).toNatClampNeg))) (w, σ') := h
            replace h := ei_get h rfl ((m_get_ne _ _ (fun z => by cases z.1)).trans ((hT.get (c := 5) (i := a) (k := 1) l13_5).trans hv.2.1))
            obtain ⟨f, g, h⟩ := h
            replace hf := Nat.lt_trans g hf
            clear g
            replace h : EV F f 83 z83 43 [some (rf 5 (a)), some (.inl (p)), some (.inl (i))] [rf 13 (qa)] (m_set τ 13 (ka) (i).toNatClampNeg (.inl (m_i τ 13 ka ((i) + (Int32.ofInt 1)).toNatClampNeg))) (w, σ') := h
            replace h := ei_p h rfl rfl rfl rfl
            obtain ⟨f, g, h⟩ := h
            replace hf := Nat.lt_trans g hf
            clear g
            replace h : EV F f 83 z83 44 [some (rf 5 (a)), some (.inl (p)), some (.inl (i))] [.inl (i), rf 13 (qa)] (m_set τ 13 (ka) (i).toNatClampNeg (.inl (m_i τ 13 ka ((i) + (Int32.ofInt 1)).toNatClampNeg))) (w, σ') := h
            replace h := ei_p h rfl rfl rfl rfl
            obtain ⟨f, g, h⟩ := h
            replace hf := Nat.lt_trans g hf
            clear g
            replace h : EV F f 83 z83 45 [some (rf 5 (a)), some (.inl (p)), some (.inl (i))] [rf 5 (a), .inl (i), rf 13 (qa)] (m_set τ 13 (ka) (i).toNatClampNeg (.inl (m_i τ 13 ka ((i) + (Int32.ofInt 1)).toNatClampNeg))) (w, σ') := h
            replace h := ei_get h rfl ((m_get_ne _ _ (fun z => by cases z.1)).trans ((hT.get (c := 5) (i := a) (k := 1) l13_5).trans hv.2.1))
            obtain ⟨f, g, h⟩ := h
            replace hf := Nat.lt_trans g hf
            clear g
            replace h : EV F f 83 z83 48 [some (rf 5 (a)), some (.inl (p)), some (.inl (i))] [rf 13 (qa), .inl (i), rf 13 (qa)] (m_set τ 13 (ka) (i).toNatClampNeg (.inl (m_i τ 13 ka ((i) + (Int32.ofInt 1)).toNatClampNeg))) (w, σ') := h
            replace h := ei_p h rfl rfl rfl rfl
            obtain ⟨f, g, h⟩ := h
            replace hf := Nat.lt_trans g hf
            clear g
            replace h : EV F f 83 z83 49 [some (rf 5 (a)), some (.inl (p)), some (.inl (i))] [.inl (i), rf 13 (qa), .inl (i), rf 13 (qa)] (m_set τ 13 (ka) (i).toNatClampNeg (.inl (m_i τ 13 ka ((i) + (Int32.ofInt 1)).toNatClampNeg))) (w, σ') := h
            replace h := ei_p h rfl rfl rfl rfl
            obtain ⟨f, g, h⟩ := h
            replace hf := Nat.lt_trans g hf
            clear g
            replace h : EV F f 83 z83 50 [some (rf 5 (a)), some (.inl (p)), some (.inl (i))] [.inl (Int32.ofInt 1), .inl (i), rf 13 (qa), .inl (i), rf 13 (qa)] (m_set τ 13 (ka) (i).toNatClampNeg (.inl (m_i τ 13 ka ((i) + (Int32.ofInt 1)).toNatClampNeg))) (w, σ') := h
            replace h := ei_p h rfl rfl rfl rfl
            obtain ⟨f, g, h⟩ := h
            replace hf := Nat.lt_trans g hf
            clear g
            replace h : EV F f 83 z83 51 [some (rf 5 (a)), some (.inl (p)), some (.inl (i))] [.inl ((i) + (Int32.ofInt 1)), rf 13 (qa), .inl (i), rf 13 (qa)] (m_set τ 13 (ka) (i).toNatClampNeg (.inl (m_i τ 13 ka ((i) + (Int32.ofInt 1)).toNatClampNeg))) (w, σ') := h
            replace h := ei_iald h rfl (fun _ => ((mi_si.trans (if_neg (fun z => hkq z.2.1.symm))).trans rfl))
            obtain ⟨vp9, f, g, h⟩ := h
            replace hf := Nat.lt_trans g hf
            clear g
            replace h : EV F f 83 z83 52 [some (rf 5 (a)), some (.inl (p)), some (.inl (i))] [.inl (m_i τ 13 qa ((i) + (Int32.ofInt 1)).toNatClampNeg), .inl (i), rf 13 (qa)] (m_set τ 13 (ka) (i).toNatClampNeg (.inl (m_i τ 13 ka ((i) + (Int32.ofInt 1)).toNatClampNeg))) (w, σ') := h
            replace vp9 := vp_lo vp9
            replace h := ei_iast h rfl
            obtain ⟨vp10, f, g, h⟩ := h
            replace hf := Nat.lt_trans g hf
            clear g
            replace h : EV F f 83 z83 53 [some (rf 5 (a)), some (.inl (p)), some (.inl (i))] [] (m_set (m_set τ 13 (ka) (i).toNatClampNeg (.inl (m_i τ 13 ka ((i) + (Int32.ofInt 1)).toNatClampNeg))) 13 (qa) (i).toNatClampNeg (.inl (m_i τ 13 qa ((i) + (Int32.ofInt 1)).toNatClampNeg))) (w, σ') := h
            replace vp10 := vp_lo vp10
            replace h := ei_p h rfl rfl rfl rfl
            obtain ⟨f, g, h⟩ := h
            replace hf := Nat.lt_trans g hf
            clear g
            replace h : EV F f 83 z83 56 [some (rf 5 (a)), some (.inl (p)), some (.inl ((i) + Int32.ofInt 1))] [] (m_set (m_set τ 13 (ka) (i).toNatClampNeg (.inl (m_i τ 13 ka ((i) + (Int32.ofInt 1)).toNatClampNeg))) 13 (qa) (i).toNatClampNeg (.inl (m_i τ 13 qa ((i) + (Int32.ofInt 1)).toNatClampNeg))) (w, σ') := h
            replace h := ei_p h rfl rfl rfl rfl
            obtain ⟨f, g, h⟩ := h
            replace hf := Nat.lt_trans g hf
            clear g
            replace h : EV F f 83 z83 2 [some (rf 5 (a)), some (.inl (p)), some (.inl ((i) + Int32.ofInt 1))] [] (m_set (m_set τ 13 (ka) (i).toNatClampNeg (.inl (m_i τ 13 ka ((i) + (Int32.ofInt 1)).toNatClampNeg))) 13 (qa) (i).toNatClampNeg (.inl (m_i τ 13 qa ((i) + (Int32.ofInt 1)).toNatClampNeg))) (w, σ') := h
            have nc : i.toInt + 1 < n := by (try rw [hc] at hp1); (try rw [hc] at hp3); (try rw [hc] at hp5); omega
            have n1 := i_nat (a := i) (by omega)
            have n2 := i_nat (a := i + Int32.ofInt 1) (by omega)
            generalize hT0 : (m_set (m_set τ 13 (ka) (i).toNatClampNeg (.inl (m_i τ 13 ka ((i) + (Int32.ofInt 1)).toNatClampNeg))) 13 (qa) (i).toNatClampNeg (.inl (m_i τ 13 qa ((i) + (Int32.ofInt 1)).toNatClampNeg))) = T at h
            have hT2 : fr3 (l13 ka qa) σ T := by
              rw [← hT0]
              exact (hT.set (c := 13) (i := ka) (k := (i).toNatClampNeg) (v := .inl (m_i τ 13 ka ((i) + (Int32.ofInt 1)).toNatClampNeg)) ⟨rfl, Or.inl rfl⟩).set (c := 13) (i := qa) (k := (i).toNatClampNeg) (v := .inl (m_i τ 13 qa ((i) + (Int32.ofInt 1)).toNatClampNeg)) ⟨rfl, Or.inr rfl⟩
            have kT : ∀ j, m_i T 13 ka j = if j = (i).toNatClampNeg then m_i τ 13 ka ((i) + (Int32.ofInt 1)).toNatClampNeg else m_i τ 13 ka j := by
              intro j
              rw [← hT0]
              exact l2_k hkq
            have qT : ∀ j, m_i T 13 qa j = if j = (i).toNatClampNeg then m_i τ 13 qa ((i) + (Int32.ofInt 1)).toNatClampNeg else m_i τ 13 qa j := by
              intro j
              rw [← hT0]
              exact l2_q hkq
            clear hT0
            have d3 : ∀ j : Nat, (j : Int) < p.toInt → m_i T 13 ka j = m_i σ 13 ka j ∧ m_i T 13 qa j = m_i σ 13 qa j := by
              intro j hj
              rw [kT, qT, if_neg (by omega), if_neg (by omega)]
              exact i3 j hj
            have d4 : ∀ j : Nat, p.toInt ≤ j → (j : Int) < (i + Int32.ofInt 1).toInt → m_i T 13 ka j = m_i σ 13 ka (j + 1) ∧ m_i T 13 qa j = m_i σ 13 qa (j + 1) := by
              intro j hj hj2
              rw [e1] at hj2
              rw [kT, qT]
              by_cases c : j = (i).toNatClampNeg
              · rw [if_pos c, if_pos c]
                have ej : (i + Int32.ofInt 1).toNatClampNeg = j + 1 := by omega
                rw [ej]
                exact i5 (j + 1) (by omega)
              · rw [if_neg c, if_neg c]
                exact i4 j hj (by omega)
            have d5 : ∀ j : Nat, (i + Int32.ofInt 1).toInt ≤ j → m_i T 13 ka j = m_i σ 13 ka j ∧ m_i T 13 qa j = m_i σ 13 qa j := by
              intro j hj
              rw [e1] at hj
              rw [kT, qT, if_neg (by omega), if_neg (by omega)]
              exact i5 j (by omega)
            exact IH f hf (i + Int32.ofInt 1) T hT2 (by rw [e1]; omega) (by rw [e1]; omega) d3 d4 d5 h
  replace h : EV F f 83 z83 0 [some (rf 5 (a)), some (.inl (p)), none] [] σ (w, σ') := h
  replace h := ei_p h rfl rfl rfl rfl
  obtain ⟨f, g, h⟩ := h
  clear g
  replace h : EV F f 83 z83 1 [some (rf 5 (a)), some (.inl (p)), none] [.inl (p)] σ (w, σ') := h
  replace h := ei_p h rfl rfl rfl rfl
  obtain ⟨f, g, h⟩ := h
  clear g
  replace h : EV F f 83 z83 2 [some (rf 5 (a)), some (.inl (p)), some (.inl (p))] [] σ (w, σ') := h
  refine loop (f + 1) f (Nat.lt_succ_self f) p σ fr3.rf (by omega) (by omega) (fun j _ => ⟨rfl, rfl⟩) (fun j h1 h2 => by omega) (fun j _ => ⟨rfl, rfl⟩) h
