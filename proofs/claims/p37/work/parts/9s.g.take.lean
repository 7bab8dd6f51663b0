/-! levels: one table takes another over -/
theorem s84 {σ σ' : mS} {a ka qa n b kb qb m : Nat} {w : mX} (hv : lv σ a ka qa n) (hw : lv σ b kb qb m) (d1 : kb ≠ ka) (d2 : kb ≠ qa) (d3 : qb ≠ ka) (d4 : qb ≠ qa) (h : ev_run sm_all 84 [rf 5 a, rf 5 b] σ w σ') : w = .inl none ∧ fr3 (l5 a ka qa) σ σ' ∧ lv σ' a ka qa m ∧ ∀ j, j < m → m_i σ' 13 ka j = m_i σ 13 kb j ∧ m_i σ' 13 qa j = m_i σ 13 qb j := by
  obtain ⟨F, f, h⟩ := ei_go h z84_at
  have hn := hw.2.2.2.2.1
  have hn4 := hw.2.2.2.2.2.1
  have hkq := hv.2.2.2.2.2.2
  have loop : ∀ N f, f < N → ∀ (i : Int32) (τ : mS), fr3 (l5 a ka qa) σ τ → (m_i τ 5 a 2).toInt = (m : Int) → 0 ≤ i.toInt → i.toInt ≤ m → (∀ j : Nat, (j : Int) < i.toInt → m_i τ 13 ka j = m_i σ 13 kb j ∧ m_i τ 13 qa j = m_i σ 13 qb j) → EV F f 84 z84 10 [some (rf 5 a), some (rf 5 b), some (.inl i)] [] τ (w, σ') → w = .inl none ∧ fr3 (l5 a ka qa) σ σ' ∧ lv σ' a ka qa m ∧ ∀ j, j < m → m_i σ' 13 ka j = m_i σ 13 kb j ∧ m_i σ' 13 qa j = m_i σ 13 qb j := by
    intro N
    induction N with
    | zero => intro f hf; omega
    | succ N IH =>
      intro f hf0 i τ hT hc i1 i2 i3 h
      have hf : f < N + 1 := hf0
      clear hf0
      have e1 := i_inc (a := i) i1 (by omega)
      have n1 := i_nat i1
      replace h := ei_p h rfl rfl rfl rfl
      obtain ⟨f, g, h⟩ := h
      replace hf := Nat.lt_of_lt_of_le g (Nat.le_of_lt_succ hf)
      clear g
      replace h : EV F f 84 z84 11 [some (rf 5 (a)), some (rf 5 (b)), some (.inl (i))] [.inl (i)] τ (w, σ') := h
      replace h := ei_p h rfl rfl rfl rfl
      obtain ⟨f, g, h⟩ := h
      replace hf := Nat.lt_trans g hf
      clear g
      replace h : EV F f 84 z84 12 [some (rf 5 (a)), some (rf 5 (b)), some (.inl (i))] [rf 5 (a), .inl (i)] τ (w, σ') := h
      replace h := ei_get h rfl rfl
      obtain ⟨f, g, h⟩ := h
      replace hf := Nat.lt_trans g hf
      clear g
      replace h : EV F f 84 z84 15 [some (rf 5 (a)), some (rf 5 (b)), some (.inl (i))] [.inl (m_i τ 5 (a) (2)), .inl (i)] τ (w, σ') := h
      replace h := ei_c h rfl rfl rfl
      rcases h with ⟨hp1, f, g, h⟩ | ⟨hp1, f, g, h⟩
      · skip
        replace hp1 : (m_i τ 5 (a) (2)).toInt ≤ (i).toInt := ic_ge.mp hp1
        replace hf := Nat.lt_trans g hf
        clear g
        replace h : EV F f 84 z84 55 [some (rf 5 (a)), some (rf 5 (b)), some (.inl (i))] [] τ (w, σ') := h
        have e := ei_ret h rfl
        cases e
        exact ⟨rfl, hT, lv_fr hT hv hc hn4, fun j hj => i3 j (by have := hp1; omega)⟩
      · skip
        replace hp1 : ¬ ((m_i τ 5 (a) (2)).toInt ≤ (i).toInt) := (not_congr ic_ge).mp hp1
        replace hf := Nat.lt_trans g hf
        clear g
        replace h : EV F f 84 z84 18 [some (rf 5 (a)), some (rf 5 (b)), some (.inl (i))] [] τ (w, σ') := h
        replace h := ei_p h rfl rfl rfl rfl
        obtain ⟨f, g, h⟩ := h
        replace hf := Nat.lt_trans g hf
        clear g
        replace h : EV F f 84 z84 19 [some (rf 5 (a)), some (rf 5 (b)), some (.inl (i))] [.inl (i)] τ (w, σ') := h
        replace h := ei_p h rfl rfl rfl rfl
        obtain ⟨f, g, h⟩ := h
        replace hf := Nat.lt_trans g hf
        clear g
        replace h : EV F f 84 z84 22 [some (rf 5 (a)), some (rf 5 (b)), some (.inl (i))] [.inl (Int32.ofInt 480), .inl (i)] τ (w, σ') := h
        replace h := ei_c h rfl rfl rfl
        rcases h with ⟨hp2, f, g, h⟩ | ⟨hp2, f, g, h⟩
        · skip
          replace hp2 : (480 : Int) ≤ (i).toInt := ic_ge.mp hp2
          replace hf := Nat.lt_trans g hf
          clear g
          exfalso
          have := hp1; have := hp2; omega
        · skip
          replace hp2 : ¬ ((480 : Int) ≤ (i).toInt) := (not_congr ic_ge).mp hp2
          replace hf := Nat.lt_trans g hf
          clear g
          replace h : EV F f 84 z84 25 [some (rf 5 (a)), some (rf 5 (b)), some (.inl (i))] [] τ (w, σ') := h
          replace h := ei_p h rfl rfl rfl rfl
          obtain ⟨f, g, h⟩ := h
          replace hf := Nat.lt_trans g hf
          clear g
          replace h : EV F f 84 z84 26 [some (rf 5 (a)), some (rf 5 (b)), some (.inl (i))] [rf 5 (a)] τ (w, σ') := h
          replace h := ei_get h rfl ((hT.get (c := 5) (i := a) (k := 0) (l5_n (by decide))).trans hv.1)
          obtain ⟨f, g, h⟩ := h
          replace hf := Nat.lt_trans g hf
          clear g
          replace h : EV F f 84 z84 29 [some (rf 5 (a)), some (rf 5 (b)), some (.inl (i))] [rf 13 (ka)] τ (w, σ') := h
          replace h := ei_p h rfl rfl rfl rfl
          obtain ⟨f, g, h⟩ := h
          replace hf := Nat.lt_trans g hf
          clear g
          replace h : EV F f 84 z84 30 [some (rf 5 (a)), some (rf 5 (b)), some (.inl (i))] [.inl (i), rf 13 (ka)] τ (w, σ') := h
          replace h := ei_p h rfl rfl rfl rfl
          obtain ⟨f, g, h⟩ := h
          replace hf := Nat.lt_trans g hf
          clear g
          replace h : EV F f 84 z84 31 [some (rf 5 (a)), some (rf 5 (b)), some (.inl (i))] [rf 5 (b), .inl (i), rf 13 (ka)] τ (w, σ') := h
          replace h := ei_get h rfl ((hT.get (c := 5) (i := b) (k := 0) (l5_n (by decide))).trans hw.1)
          obtain ⟨f, g, h⟩ := h
          replace hf := Nat.lt_trans g hf
          clear g
          replace h : EV F f 84 z84 34 [some (rf 5 (a)), some (rf 5 (b)), some (.inl (i))] [rf 13 (kb), .inl (i), rf 13 (ka)] τ (w, σ') := h
          replace h := ei_p h rfl rfl rfl rfl
          obtain ⟨f, g, h⟩ := h
          replace hf := Nat.lt_trans g hf
          clear g
          replace h : EV F f 84 z84 35 [some (rf 5 (a)), some (rf 5 (b)), some (.inl (i))] [.inl (i), rf 13 (kb), .inl (i), rf 13 (ka)] τ (w, σ') := h
          replace h := ei_iald h rfl (fun _ => rfl)
          obtain ⟨vp3, f, g, h⟩ := h
          replace hf := Nat.lt_trans g hf
          clear g
          replace h : EV F f 84 z84 36 [some (rf 5 (a)), some (rf 5 (b)), some (.inl (i))] [.inl (m_i τ 13 kb (i).toNatClampNeg), .inl (i), rf 13 (ka)] τ (w, σ') := h
          replace vp3 := vp_ok.mp vp3
          replace h := ei_iast h rfl
          obtain ⟨vp4, f, g, h⟩ := h
          replace hf := Nat.lt_trans g hf
          clear g
          replace h : EV F f 84 z84 37 [some (rf 5 (a)), some (rf 5 (b)), some (.inl (i))] [] (m_set τ 13 (ka) (i).toNatClampNeg (.inl (m_i τ 13 kb (i).toNatClampNeg))) (w, σ') := h
          replace vp4 := vp_ok.mp vp4
          replace h := ei_p h rfl rfl rfl rfl
          obtain ⟨f, g, h⟩ := h
          replace hf := Nat.lt_trans g hf
          clear g
          replace h : EV F f 84 z84 38 [some (rf 5 (a)), some (rf 5 (b)), some (.inl (i))] [rf 5 (a)] (m_set τ 13 (ka) (i).toNatClampNeg (.inl (m_i τ 13 kb (i).toNatClampNeg))) (w, σ') := h
          replace h := ei_get h rfl ((m_get_ne _ _ (fun z => by cases z.1)).trans ((hT.get (c := 5) (i := a) (k := 1) (l5_n (by decide))).trans hv.2.1))
          obtain ⟨f, g, h⟩ := h
          replace hf := Nat.lt_trans g hf
          clear g
          replace h : EV F f 84 z84 41 [some (rf 5 (a)), some (rf 5 (b)), some (.inl (i))] [rf 13 (qa)] (m_set τ 13 (ka) (i).toNatClampNeg (.inl (m_i τ 13 kb (i).toNatClampNeg))) (w, σ') := h
          replace h := ei_p h rfl rfl rfl rfl
          obtain ⟨f, g, h⟩ := h
          replace hf := Nat.lt_trans g hf
          clear g
          replace h : EV F f 84 z84 42 [some (rf 5 (a)), some (rf 5 (b)), some (.inl (i))] [.inl (i), rf 13 (qa)] (m_set τ 13 (ka) (i).toNatClampNeg (.inl (m_i τ 13 kb (i).toNatClampNeg))) (w, σ') := h
          replace h := ei_p h rfl rfl rfl rfl
          obtain ⟨f, g, h⟩ := h
          replace hf := Nat.lt_trans g hf
          clear g
          replace h : EV F f 84 z84 43 [some (rf 5 (a)), some (rf 5 (b)), some (.inl (i))] [rf 5 (b), .inl (i), rf 13 (qa)] (m_set τ 13 (ka) (i).toNatClampNeg (.inl (m_i τ 13 kb (i).toNatClampNeg))) (w, σ') := h
          replace h := ei_get h rfl ((m_get_ne _ _ (fun z => by cases z.1)).trans ((hT.get (c := 5) (i := b) (k := 1) (l5_n (by decide))).trans hw.2.1))
          obtain ⟨f, g, h⟩ := h
          replace hf := Nat.lt_trans g hf
          clear g
          replace h : EV F f 84 z84 46 [some (rf 5 (a)), some (rf 5 (b)), some (.inl (i))] [rf 13 (qb), .inl (i), rf 13 (qa)] (m_set τ 13 (ka) (i).toNatClampNeg (.inl (m_i τ 13 kb (i).toNatClampNeg))) (w, σ') := h
          replace h := ei_p h rfl rfl rfl rfl
          obtain ⟨f, g, h⟩ := h
          replace hf := Nat.lt_trans g hf
          clear g
          replace h : EV F f 84 z84 47 [some (rf 5 (a)), some (rf 5 (b)), some (.inl (i))] [.inl (i), rf 13 (qb), .inl (i), rf 13 (qa)] (m_set τ 13 (ka) (i).toNatClampNeg (.inl (m_i τ 13 kb (i).toNatClampNeg))) (w, σ') := h
          replace h := ei_iald h rfl (fun _ => (mi_si.trans (if_neg (fun z => d3 z.2.1))).trans (rfl))
          obtain ⟨vp5, f, g, h⟩ := h
          replace hf := Nat.lt_trans g hf
          clear g
          replace h : EV F f 84 z84 48 [some (rf 5 (a)), some (rf 5 (b)), some (.inl (i))] [.inl (m_i τ 13 qb (i).toNatClampNeg), .inl (i), rf 13 (qa)] (m_set τ 13 (ka) (i).toNatClampNeg (.inl (m_i τ 13 kb (i).toNatClampNeg))) (w, σ') := h
          replace vp5 := vp_lo vp5
          replace h := ei_iast h rfl
          obtain ⟨vp6, f, g, h⟩ := h
          replace hf := Nat.lt_trans g hf
          clear g
          replace h : EV F f 84 z84 49 [some (rf 5 (a)), some (rf 5 (b)), some (.inl (i))] [] (m_set (m_set τ 13 (ka) (i).toNatClampNeg (.inl (m_i τ 13 kb (i).toNatClampNeg))) 13 (qa) (i).toNatClampNeg (.inl (m_i τ 13 qb (i).toNatClampNeg))) (w, σ') := h
          replace vp6 := vp_lo vp6
          replace h := ei_p h rfl rfl rfl rfl
          obtain ⟨f, g, h⟩ := h
          replace hf := Nat.lt_trans g hf
          clear g
          replace h : EV F f 84 z84 52 [some (rf 5 (a)), some (rf 5 (b)), some (.inl ((i) + Int32.ofInt 1))] [] (m_set (m_set τ 13 (ka) (i).toNatClampNeg (.inl (m_i τ 13 kb (i).toNatClampNeg))) 13 (qa) (i).toNatClampNeg (.inl (m_i τ 13 qb (i).toNatClampNeg))) (w, σ') := h
          replace h := ei_p h rfl rfl rfl rfl
          obtain ⟨f, g, h⟩ := h
          replace hf := Nat.lt_trans g hf
          clear g
          replace h : EV F f 84 z84 10 [some (rf 5 (a)), some (rf 5 (b)), some (.inl ((i) + Int32.ofInt 1))] [] (m_set (m_set τ 13 (ka) (i).toNatClampNeg (.inl (m_i τ 13 kb (i).toNatClampNeg))) 13 (qa) (i).toNatClampNeg (.inl (m_i τ 13 qb (i).toNatClampNeg))) (w, σ') := h
          have im : i.toInt < m := by have := hp1; have := hp2; omega
          generalize hi0 : i + Int32.ofInt 1 = iw at *
          generalize hT0 : (m_set (m_set τ 13 (ka) (i).toNatClampNeg (.inl (m_i τ 13 kb (i).toNatClampNeg))) 13 (qa) (i).toNatClampNeg (.inl (m_i τ 13 qb (i).toNatClampNeg))) = T at h
          have hT2 : fr3 (l5 a ka qa) σ T := by
            rw [← hT0]
            exact (hT.set (c := 13) (i := ka) (k := (i).toNatClampNeg) (v := .inl (m_i τ 13 kb (i).toNatClampNeg)) (Or.inr ⟨rfl, Or.inl rfl⟩)).set (c := 13) (i := qa) (k := (i).toNatClampNeg) (v := .inl (m_i τ 13 qb (i).toNatClampNeg)) (Or.inr ⟨rfl, Or.inr rfl⟩)
          have kT : ∀ j, m_i T 13 ka j = if j = (i).toNatClampNeg then m_i τ 13 kb (i).toNatClampNeg else m_i τ 13 ka j := by
            intro j
            rw [← hT0]
            exact l2_k hkq
          have qT : ∀ j, m_i T 13 qa j = if j = (i).toNatClampNeg then m_i τ 13 qb (i).toNatClampNeg else m_i τ 13 qa j := by
            intro j
            rw [← hT0]
            exact l2_q hkq
          have cT : (m_i T 5 a 2).toInt = (m : Int) := by
            rw [← hT0]
            exact (congrArg Int32.toInt ((mi_si.trans (if_neg (fun z => by cases z.1))).trans (mi_si.trans (if_neg (fun z => by cases z.1))))).trans hc
          clear hT0
          have fk : ∀ j, m_i τ 13 kb j = m_i σ 13 kb j := fun j => (hT.2.2 13 kb j (fun z => by
            rcases z with z | z
            · cases z.1
            · rcases z.2 with y | y
              · exact d1 y
              · exact d2 y)).1
          have fq : ∀ j, m_i τ 13 qb j = m_i σ 13 qb j := fun j => (hT.2.2 13 qb j (fun z => by
            rcases z with z | z
            · cases z.1
            · rcases z.2 with y | y
              · exact d3 y
              · exact d4 y)).1
          refine IH f hf iw T hT2 cT (by omega) (by omega) (fun j hj => ?_) h
          rw [e1] at hj
          rw [kT, qT]
          by_cases c : j = (i).toNatClampNeg
          · rw [if_pos c, if_pos c, fk, fq, c]
            exact ⟨rfl, rfl⟩
          · rw [if_neg c, if_neg c]
            exact i3 j (by omega)
  replace h : EV F f 84 z84 0 [some (rf 5 (a)), some (rf 5 (b)), none] [] σ (w, σ') := h
  replace h := ei_p h rfl rfl rfl rfl
  obtain ⟨f, g, h⟩ := h
  clear g
  replace h : EV F f 84 z84 1 [some (rf 5 (a)), some (rf 5 (b)), none] [rf 5 (a)] σ (w, σ') := h
  replace h := ei_p h rfl rfl rfl rfl
  obtain ⟨f, g, h⟩ := h
  clear g
  replace h : EV F f 84 z84 2 [some (rf 5 (a)), some (rf 5 (b)), none] [rf 5 (b), rf 5 (a)] σ (w, σ') := h
  replace h := ei_get h rfl rfl
  obtain ⟨f, g, h⟩ := h
  clear g
  replace h : EV F f 84 z84 5 [some (rf 5 (a)), some (rf 5 (b)), none] [.inl (m_i σ 5 (b) (2)), rf 5 (a)] σ (w, σ') := h
  replace h := ei_put h rfl
  obtain ⟨ht1, f, g, h⟩ := h
  clear g
  replace h : EV F f 84 z84 8 [some (rf 5 (a)), some (rf 5 (b)), none] [] (m_set σ 5 (a) 2 (.inl (m_i σ 5 (b) (2)))) (w, σ') := h
  replace h := ei_p h rfl rfl rfl rfl
  obtain ⟨f, g, h⟩ := h
  clear g
  replace h : EV F f 84 z84 9 [some (rf 5 (a)), some (rf 5 (b)), none] [.inl (Int32.ofInt 0)] (m_set σ 5 (a) 2 (.inl (m_i σ 5 (b) (2)))) (w, σ') := h
  replace h := ei_p h rfl rfl rfl rfl
  obtain ⟨f, g, h⟩ := h
  clear g
  replace h : EV F f 84 z84 10 [some (rf 5 (a)), some (rf 5 (b)), some (.inl (Int32.ofInt 0))] [] (m_set σ 5 (a) 2 (.inl (m_i σ 5 (b) (2)))) (w, σ') := h
  refine loop (f + 1) f (Nat.lt_succ_self f) (Int32.ofInt 0) _ (fr3.rf.set (Or.inl ⟨rfl, rfl, rfl⟩)) ((congrArg Int32.toInt (mi_si.trans (if_pos ⟨rfl, rfl, rfl⟩))).trans hn) (by decide) (by show (0 : Int) ≤ m; omega) (fun j hj => ?_) h
  have hj : (j : Int) < 0 := hj
  omega
