/-! put -/
theorem s81 {σ σ' : mS} {a ka qa n : Nat} {key q : Int32} {w : mX} (hv : lv σ a ka qa n) (hS : lS σ ka n) (hn8 : n < 480) (h : ev_run sm_all 81 [rf 5 a, .inl key, .inl q] σ w σ') : w = .inl none ∧ fr3 (l5 a ka qa) σ σ' ∧ ∃ n', lv σ' a ka qa n' ∧ pR n (lK σ ka) (lQ σ qa) n' (lK σ' ka) (lQ σ' qa) key.toInt q.toInt := by
  obtain ⟨F, f, h⟩ := ei_go h z81_at
  have hn := hv.2.2.2.2.1
  have hkq := hv.2.2.2.2.2.2
  replace h : EV F f 81 z81 0 [some (rf 5 (a)), some (.inl (key)), some (.inl (q)), none, none] [] σ (w, σ') := h
  replace h := ei_p h rfl rfl rfl rfl
  obtain ⟨f, g, h⟩ := h
  clear g
  replace h : EV F f 81 z81 1 [some (rf 5 (a)), some (.inl (key)), some (.inl (q)), none, none] [rf 5 (a)] σ (w, σ') := h
  replace h := ei_p h rfl rfl rfl rfl
  obtain ⟨f, g, h⟩ := h
  clear g
  replace h : EV F f 81 z81 2 [some (rf 5 (a)), some (.inl (key)), some (.inl (q)), none, none] [.inl (key), rf 5 (a)] σ (w, σ') := h
  replace h := bk_I (ei_v (as := [.inl (key)]) h rfl rfl rfl) rfl z80_at (Or.inl rfl)
  obtain ⟨v1, τ2, r3, f, g, h⟩ := h
  clear g
  obtain ⟨pr3, er3, tr3, nr3, Pr3⟩ := s80 hv r3
  cases er3
  rw [tr3] at h
  have xp := i_nat nr3
  obtain ⟨q1, q2, q3⟩ := Pr3
  replace h : EV F f 81 z81 5 [some (rf 5 (a)), some (.inl (key)), some (.inl (q)), none, none] [.inl (v1)] σ (w, σ') := h
  replace h := ei_p h rfl rfl rfl rfl
  obtain ⟨f, g, h⟩ := h
  clear g
  replace h : EV F f 81 z81 6 [some (rf 5 (a)), some (.inl (key)), some (.inl (q)), some (.inl (v1)), none] [] σ (w, σ') := h
  replace h := ei_p h rfl rfl rfl rfl
  obtain ⟨f, g, h⟩ := h
  clear g
  replace h : EV F f 81 z81 7 [some (rf 5 (a)), some (.inl (key)), some (.inl (q)), some (.inl (v1)), none] [.inl (v1)] σ (w, σ') := h
  replace h := ei_c h rfl rfl rfl
  rcases h with ⟨hp4, f, g, h⟩ | ⟨hp4, f, g, h⟩
  · skip
    replace hp4 : (v1).toInt < (0 : Int) := ic_lt.mp hp4
    clear g
    exfalso
    have := hp4; omega
  · skip
    replace hp4 : ¬ ((v1).toInt < (0 : Int)) := (not_congr ic_lt).mp hp4
    clear g
    replace h : EV F f 81 z81 10 [some (rf 5 (a)), some (.inl (key)), some (.inl (q)), some (.inl (v1)), none] [] σ (w, σ') := h
    replace h := ei_p h rfl rfl rfl rfl
    obtain ⟨f, g, h⟩ := h
    clear g
    replace h : EV F f 81 z81 11 [some (rf 5 (a)), some (.inl (key)), some (.inl (q)), some (.inl (v1)), none] [.inl (v1)] σ (w, σ') := h
    replace h := ei_p h rfl rfl rfl rfl
    obtain ⟨f, g, h⟩ := h
    clear g
    replace h : EV F f 81 z81 14 [some (rf 5 (a)), some (.inl (key)), some (.inl (q)), some (.inl (v1)), none] [.inl (Int32.ofInt 480), .inl (v1)] σ (w, σ') := h
    replace h := ei_c h rfl rfl rfl
    rcases h with ⟨hp5, f, g, h⟩ | ⟨hp5, f, g, h⟩
    · skip
      replace hp5 : (v1).toInt < (480 : Int) := ic_lt.mp hp5
      clear g
      replace h : EV F f 81 z81 18 [some (rf 5 (a)), some (.inl (key)), some (.inl (q)), some (.inl (v1)), none] [] σ (w, σ') := h
      replace h := ei_p h rfl rfl rfl rfl
      obtain ⟨f, g, h⟩ := h
      clear g
      replace h : EV F f 81 z81 19 [some (rf 5 (a)), some (.inl (key)), some (.inl (q)), some (.inl (v1)), none] [.inl (v1)] σ (w, σ') := h
      replace h := ei_p h rfl rfl rfl rfl
      obtain ⟨f, g, h⟩ := h
      clear g
      replace h : EV F f 81 z81 20 [some (rf 5 (a)), some (.inl (key)), some (.inl (q)), some (.inl (v1)), none] [rf 5 (a), .inl (v1)] σ (w, σ') := h
      replace h := ei_get h rfl rfl
      obtain ⟨f, g, h⟩ := h
      clear g
      replace h : EV F f 81 z81 23 [some (rf 5 (a)), some (.inl (key)), some (.inl (q)), some (.inl (v1)), none] [.inl (m_i σ 5 (a) (2)), .inl (v1)] σ (w, σ') := h
      replace h := ei_c h rfl rfl rfl
      rcases h with ⟨hp6, f, g, h⟩ | ⟨hp6, f, g, h⟩
      · skip
        replace hp6 : (m_i σ 5 (a) (2)).toInt ≤ (v1).toInt := ic_ge.mp hp6
        clear g
        replace h : EV F f 81 z81 40 [some (rf 5 (a)), some (.inl (key)), some (.inl (q)), some (.inl (v1)), none] [] σ (w, σ') := h
        replace h := ei_p h rfl rfl rfl rfl
        obtain ⟨f, g, h⟩ := h
        clear g
        replace h : EV F f 81 z81 41 [some (rf 5 (a)), some (.inl (key)), some (.inl (q)), some (.inl (v1)), none] [.inl (Int32.ofInt 0)] σ (w, σ') := h
        replace h := ei_p h rfl rfl rfl rfl
        obtain ⟨f, g, h⟩ := h
        clear g
        replace h : EV F f 81 z81 43 [some (rf 5 (a)), some (.inl (key)), some (.inl (q)), some (.inl (v1)), some (.inl (Int32.ofInt 0))] [] σ (w, σ') := h
        replace h := ei_p h rfl rfl rfl rfl
        obtain ⟨f, g, h⟩ := h
        clear g
        replace h : EV F f 81 z81 44 [some (rf 5 (a)), some (.inl (key)), some (.inl (q)), some (.inl (v1)), some (.inl (Int32.ofInt 0))] [.inl (q)] σ (w, σ') := h
        replace h := ei_c h rfl rfl rfl
        rcases h with ⟨hp7, f, g, h⟩ | ⟨hp7, f, g, h⟩
        · skip
          replace hp7 : (q).toInt ≠ (0 : Int) := ic_ne.mp hp7
          clear g
          replace h : EV F f 81 z81 60 [some (rf 5 (a)), some (.inl (key)), some (.inl (q)), some (.inl (v1)), some (.inl (Int32.ofInt 0))] [] σ (w, σ') := h
          replace h := ei_p h rfl rfl rfl rfl
          obtain ⟨f, g, h⟩ := h
          clear g
          replace h : EV F f 81 z81 61 [some (rf 5 (a)), some (.inl (key)), some (.inl (q)), some (.inl (v1)), some (.inl (Int32.ofInt 0))] [.inl (q)] σ (w, σ') := h
          replace h := ei_c h rfl rfl rfl
          rcases h with ⟨hp8, f, g, h⟩ | ⟨hp8, f, g, h⟩
          · skip
            replace hp8 : (q).toInt = (0 : Int) := ic_eq.mp hp8
            clear g
            exfalso
            have := hp4; have := hp5; have := hp6; have := hp7; have := hp8; omega
          · skip
            replace hp8 : ¬ ((q).toInt = (0 : Int)) := (not_congr ic_eq).mp hp8
            clear g
            replace h : EV F f 81 z81 64 [some (rf 5 (a)), some (.inl (key)), some (.inl (q)), some (.inl (v1)), some (.inl (Int32.ofInt 0))] [] σ (w, σ') := h
            replace h := ei_p h rfl rfl rfl rfl
            obtain ⟨f, g, h⟩ := h
            clear g
            replace h : EV F f 81 z81 66 [some (rf 5 (a)), some (.inl (key)), some (.inl (q)), some (.inl (v1)), some (.inl (Int32.ofInt 0))] [.inl (Int32.ofInt 0)] σ (w, σ') := h
            replace h := ei_c h rfl rfl rfl
            rcases h with ⟨hp9, f, g, h⟩ | ⟨hp9, f, g, h⟩
            · skip
              clear g
              replace h : EV F f 81 z81 79 [some (rf 5 (a)), some (.inl (key)), some (.inl (q)), some (.inl (v1)), some (.inl (Int32.ofInt 0))] [] σ (w, σ') := h
              replace h := ei_p h rfl rfl rfl rfl
              obtain ⟨f, g, h⟩ := h
              clear g
              replace h : EV F f 81 z81 80 [some (rf 5 (a)), some (.inl (key)), some (.inl (q)), some (.inl (v1)), some (.inl (Int32.ofInt 0))] [.inl (q)] σ (w, σ') := h
              replace h := ei_c h rfl rfl rfl
              rcases h with ⟨hp10, f, g, h⟩ | ⟨hp10, f, g, h⟩
              · skip
                replace hp10 : (q).toInt = (0 : Int) := ic_eq.mp hp10
                clear g
                exfalso
                have := hp4; have := hp5; have := hp6; have := hp7; have := hp8; have := hp9; have := hp10; omega
              · skip
                replace hp10 : ¬ ((q).toInt = (0 : Int)) := (not_congr ic_eq).mp hp10
                clear g
                replace h : EV F f 81 z81 83 [some (rf 5 (a)), some (.inl (key)), some (.inl (q)), some (.inl (v1)), some (.inl (Int32.ofInt 0))] [] σ (w, σ') := h
                replace h := ei_p h rfl rfl rfl rfl
                obtain ⟨f, g, h⟩ := h
                clear g
                replace h : EV F f 81 z81 84 [some (rf 5 (a)), some (.inl (key)), some (.inl (q)), some (.inl (v1)), some (.inl (Int32.ofInt 0))] [rf 5 (a)] σ (w, σ') := h
                replace h := ei_get h rfl rfl
                obtain ⟨f, g, h⟩ := h
                clear g
                replace h : EV F f 81 z81 87 [some (rf 5 (a)), some (.inl (key)), some (.inl (q)), some (.inl (v1)), some (.inl (Int32.ofInt 0))] [.inl (m_i σ 5 (a) (2))] σ (w, σ') := h
                replace h := ei_p h rfl rfl rfl rfl
                obtain ⟨f, g, h⟩ := h
                clear g
                replace h : EV F f 81 z81 90 [some (rf 5 (a)), some (.inl (key)), some (.inl (q)), some (.inl (v1)), some (.inl (Int32.ofInt 0))] [.inl (Int32.ofInt 480), .inl (m_i σ 5 (a) (2))] σ (w, σ') := h
                replace h := ei_c h rfl rfl rfl
                rcases h with ⟨hp11, f, g, h⟩ | ⟨hp11, f, g, h⟩
                · skip
                  replace hp11 : (480 : Int) ≤ (m_i σ 5 (a) (2)).toInt := ic_ge.mp hp11
                  clear g
                  exfalso
                  have := hp4; have := hp5; have := hp6; have := hp7; have := hp8; have := hp9; have := hp10; have := hp11; omega
                · skip
                  replace hp11 : ¬ ((480 : Int) ≤ (m_i σ 5 (a) (2)).toInt) := (not_congr ic_ge).mp hp11
                  clear g
                  replace h : EV F f 81 z81 93 [some (rf 5 (a)), some (.inl (key)), some (.inl (q)), some (.inl (v1)), some (.inl (Int32.ofInt 0))] [] σ (w, σ') := h
                  replace h := ei_p h rfl rfl rfl rfl
                  obtain ⟨f, g, h⟩ := h
                  clear g
                  replace h : EV F f 81 z81 94 [some (rf 5 (a)), some (.inl (key)), some (.inl (q)), some (.inl (v1)), some (.inl (Int32.ofInt 0))] [rf 5 (a)] σ (w, σ') := h
                  replace h := ei_p h rfl rfl rfl rfl
                  obtain ⟨f, g, h⟩ := h
                  clear g
                  replace h : EV F f 81 z81 95 [some (rf 5 (a)), some (.inl (key)), some (.inl (q)), some (.inl (v1)), some (.inl (Int32.ofInt 0))] [.inl (v1), rf 5 (a)] σ (w, σ') := h
                  replace h := bk_0 (ei_v (as := [.inl (v1)]) h rfl rfl rfl) rfl z82_at rfl
                  obtain ⟨τ13, r14, f, g, h⟩ := h
                  clear g
                  obtain ⟨_, hF, C, A, B⟩ := s82 hv ⟨by omega, by omega, hn8⟩ r14
                  replace h : EV F f 81 z81 98 [some (rf 5 (a)), some (.inl (key)), some (.inl (q)), some (.inl (v1)), some (.inl (Int32.ofInt 0))] [] τ13 (w, σ') := h
                  replace h := ei_p h rfl rfl rfl rfl
                  obtain ⟨f, g, h⟩ := h
                  clear g
                  replace h : EV F f 81 z81 99 [some (rf 5 (a)), some (.inl (key)), some (.inl (q)), some (.inl (v1)), some (.inl (Int32.ofInt 0))] [rf 5 (a)] τ13 (w, σ') := h
                  replace h := ei_get h rfl ((hF.get (c := 5) (i := a) (k := 0) (l5_n (by decide))).trans hv.1)
                  obtain ⟨f, g, h⟩ := h
                  clear g
                  replace h : EV F f 81 z81 102 [some (rf 5 (a)), some (.inl (key)), some (.inl (q)), some (.inl (v1)), some (.inl (Int32.ofInt 0))] [rf 13 (ka)] τ13 (w, σ') := h
                  replace h := ei_p h rfl rfl rfl rfl
                  obtain ⟨f, g, h⟩ := h
                  clear g
                  replace h : EV F f 81 z81 103 [some (rf 5 (a)), some (.inl (key)), some (.inl (q)), some (.inl (v1)), some (.inl (Int32.ofInt 0))] [.inl (v1), rf 13 (ka)] τ13 (w, σ') := h
                  replace h := ei_p h rfl rfl rfl rfl
                  obtain ⟨f, g, h⟩ := h
                  clear g
                  replace h : EV F f 81 z81 104 [some (rf 5 (a)), some (.inl (key)), some (.inl (q)), some (.inl (v1)), some (.inl (Int32.ofInt 0))] [.inl (key), .inl (v1), rf 13 (ka)] τ13 (w, σ') := h
                  replace h := ei_iast h rfl
                  obtain ⟨vp15, f, g, h⟩ := h
                  clear g
                  replace h : EV F f 81 z81 105 [some (rf 5 (a)), some (.inl (key)), some (.inl (q)), some (.inl (v1)), some (.inl (Int32.ofInt 0))] [] (m_set τ13 13 (ka) (v1).toNatClampNeg (.inl (key))) (w, σ') := h
                  replace vp15 := vp_ok.mp vp15
                  replace h := ei_p h rfl rfl rfl rfl
                  obtain ⟨f, g, h⟩ := h
                  clear g
                  replace h : EV F f 81 z81 106 [some (rf 5 (a)), some (.inl (key)), some (.inl (q)), some (.inl (v1)), some (.inl (Int32.ofInt 0))] [rf 5 (a)] (m_set τ13 13 (ka) (v1).toNatClampNeg (.inl (key))) (w, σ') := h
                  replace h := ei_get h rfl ((m_get_ne _ _ (fun z => by cases z.1)).trans ((hF.get (c := 5) (i := a) (k := 1) (l5_n (by decide))).trans hv.2.1))
                  obtain ⟨f, g, h⟩ := h
                  clear g
                  replace h : EV F f 81 z81 109 [some (rf 5 (a)), some (.inl (key)), some (.inl (q)), some (.inl (v1)), some (.inl (Int32.ofInt 0))] [rf 13 (qa)] (m_set τ13 13 (ka) (v1).toNatClampNeg (.inl (key))) (w, σ') := h
                  replace h := ei_p h rfl rfl rfl rfl
                  obtain ⟨f, g, h⟩ := h
                  clear g
                  replace h : EV F f 81 z81 110 [some (rf 5 (a)), some (.inl (key)), some (.inl (q)), some (.inl (v1)), some (.inl (Int32.ofInt 0))] [.inl (v1), rf 13 (qa)] (m_set τ13 13 (ka) (v1).toNatClampNeg (.inl (key))) (w, σ') := h
                  replace h := ei_p h rfl rfl rfl rfl
                  obtain ⟨f, g, h⟩ := h
                  clear g
                  replace h : EV F f 81 z81 111 [some (rf 5 (a)), some (.inl (key)), some (.inl (q)), some (.inl (v1)), some (.inl (Int32.ofInt 0))] [.inl (q), .inl (v1), rf 13 (qa)] (m_set τ13 13 (ka) (v1).toNatClampNeg (.inl (key))) (w, σ') := h
                  replace h := ei_iast h rfl
                  obtain ⟨vp16, f, g, h⟩ := h
                  clear g
                  replace h : EV F f 81 z81 112 [some (rf 5 (a)), some (.inl (key)), some (.inl (q)), some (.inl (v1)), some (.inl (Int32.ofInt 0))] [] (m_set (m_set τ13 13 (ka) (v1).toNatClampNeg (.inl (key))) 13 (qa) (v1).toNatClampNeg (.inl (q))) (w, σ') := h
                  replace vp16 := vp_lo vp16
                  have e := ei_ret h rfl
                  cases e
                  have hh : ¬ ((v1).toNatClampNeg < n ∧ lK σ ka (v1).toNatClampNeg = key.toInt) := fun z => by have := z.1; have := hp4; have := hp5; have := hp6; have := hp7; have := hp8; have := hp9; have := hp10; have := hp11; omega
                  have hq : q.toInt ≠ 0 := by have := hp4; have := hp5; have := hp6; have := hp7; have := hp8; have := hp9; have := hp10; have := hp11; omega
                  have F2 : fr3 (l5 a ka qa) σ (m_set (m_set τ13 13 (ka) (v1).toNatClampNeg (.inl (key))) 13 (qa) (v1).toNatClampNeg (.inl (q))) := (hF.set (Or.inr ⟨rfl, Or.inl rfl⟩)).set (Or.inr ⟨rfl, Or.inr rfl⟩)
                  refine ⟨rfl, F2, n + 1, lv_fr F2 hv ((congrArg Int32.toInt ((mi_si.trans (if_neg (fun z => by cases z.1))).trans (mi_si.trans (if_neg (fun z => by cases z.1))))).trans (by omega)) (by omega), pD hS q2 q3 (by omega) hh (fun j hj => ?_) (fun j hj hj2 => ?_) ?_ ?_ hq⟩
                  · have g := A j (by omega)
                    exact ⟨congrArg Int32.toInt ((l2_k hkq).trans ((if_neg (by omega)).trans g.1)), congrArg Int32.toInt ((l2_q hkq).trans ((if_neg (by omega)).trans g.2))⟩
                  · have g := B j (by omega) (by omega)
                    exact ⟨congrArg Int32.toInt ((l2_k hkq).trans ((if_neg (by omega)).trans g.1)), congrArg Int32.toInt ((l2_q hkq).trans ((if_neg (by omega)).trans g.2))⟩
                  · exact congrArg Int32.toInt ((l2_k hkq).trans (if_pos rfl))
                  · exact congrArg Int32.toInt ((l2_q hkq).trans (if_pos rfl))
            · exact absurd (ic_eq.mpr (by decide)) hp9
        · skip
          replace hp7 : ¬ ((q).toInt ≠ (0 : Int)) := (not_congr ic_ne).mp hp7
          clear g
          replace h : EV F f 81 z81 47 [some (rf 5 (a)), some (.inl (key)), some (.inl (q)), some (.inl (v1)), some (.inl (Int32.ofInt 0))] [] σ (w, σ') := h
          replace h := ei_p h rfl rfl rfl rfl
          obtain ⟨f, g, h⟩ := h
          clear g
          replace h : EV F f 81 z81 49 [some (rf 5 (a)), some (.inl (key)), some (.inl (q)), some (.inl (v1)), some (.inl (Int32.ofInt 0))] [.inl (Int32.ofInt 0)] σ (w, σ') := h
          replace h := ei_c h rfl rfl rfl
          rcases h with ⟨hp17, f, g, h⟩ | ⟨hp17, f, g, h⟩
          · skip
            clear g
            replace h : EV F f 81 z81 60 [some (rf 5 (a)), some (.inl (key)), some (.inl (q)), some (.inl (v1)), some (.inl (Int32.ofInt 0))] [] σ (w, σ') := h
            replace h := ei_p h rfl rfl rfl rfl
            obtain ⟨f, g, h⟩ := h
            clear g
            replace h : EV F f 81 z81 61 [some (rf 5 (a)), some (.inl (key)), some (.inl (q)), some (.inl (v1)), some (.inl (Int32.ofInt 0))] [.inl (q)] σ (w, σ') := h
            replace h := ei_c h rfl rfl rfl
            rcases h with ⟨hp18, f, g, h⟩ | ⟨hp18, f, g, h⟩
            · skip
              replace hp18 : (q).toInt = (0 : Int) := ic_eq.mp hp18
              clear g
              replace h : EV F f 81 z81 79 [some (rf 5 (a)), some (.inl (key)), some (.inl (q)), some (.inl (v1)), some (.inl (Int32.ofInt 0))] [] σ (w, σ') := h
              replace h := ei_p h rfl rfl rfl rfl
              obtain ⟨f, g, h⟩ := h
              clear g
              replace h : EV F f 81 z81 80 [some (rf 5 (a)), some (.inl (key)), some (.inl (q)), some (.inl (v1)), some (.inl (Int32.ofInt 0))] [.inl (q)] σ (w, σ') := h
              replace h := ei_c h rfl rfl rfl
              rcases h with ⟨hp19, f, g, h⟩ | ⟨hp19, f, g, h⟩
              · skip
                replace hp19 : (q).toInt = (0 : Int) := ic_eq.mp hp19
                clear g
                replace h : EV F f 81 z81 112 [some (rf 5 (a)), some (.inl (key)), some (.inl (q)), some (.inl (v1)), some (.inl (Int32.ofInt 0))] [] σ (w, σ') := h
                have e := ei_ret h rfl
                cases e
                have hh : ¬ ((v1).toNatClampNeg < n ∧ lK σ ka (v1).toNatClampNeg = key.toInt) := fun z => by have := z.1; have := hp4; have := hp5; have := hp6; have := hp7; have := hp17; have := hp18; have := hp19; omega
                have hq : q.toInt = 0 := by have := hp4; have := hp5; have := hp6; have := hp7; have := hp17; have := hp18; have := hp19; omega
                exact ⟨rfl, fr3.rf, n, hv, pA hS q2 q3 hh hq⟩
              · skip
                replace hp19 : ¬ ((q).toInt = (0 : Int)) := (not_congr ic_eq).mp hp19
                clear g
                exfalso
                have := hp4; have := hp5; have := hp6; have := hp7; have := hp17; have := hp18; have := hp19; omega
            · skip
              replace hp18 : ¬ ((q).toInt = (0 : Int)) := (not_congr ic_eq).mp hp18
              clear g
              exfalso
              have := hp4; have := hp5; have := hp6; have := hp7; have := hp17; have := hp18; omega
          · exact absurd (ic_eq.mpr (by decide)) hp17
      · skip
        replace hp6 : ¬ ((m_i σ 5 (a) (2)).toInt ≤ (v1).toInt) := (not_congr ic_ge).mp hp6
        clear g
        replace h : EV F f 81 z81 26 [some (rf 5 (a)), some (.inl (key)), some (.inl (q)), some (.inl (v1)), none] [] σ (w, σ') := h
        replace h := ei_p h rfl rfl rfl rfl
        obtain ⟨f, g, h⟩ := h
        clear g
        replace h : EV F f 81 z81 27 [some (rf 5 (a)), some (.inl (key)), some (.inl (q)), some (.inl (v1)), none] [rf 5 (a)] σ (w, σ') := h
        replace h := ei_get h rfl hv.1
        obtain ⟨f, g, h⟩ := h
        clear g
        replace h : EV F f 81 z81 30 [some (rf 5 (a)), some (.inl (key)), some (.inl (q)), some (.inl (v1)), none] [rf 13 (ka)] σ (w, σ') := h
        replace h := ei_p h rfl rfl rfl rfl
        obtain ⟨f, g, h⟩ := h
        clear g
        replace h : EV F f 81 z81 31 [some (rf 5 (a)), some (.inl (key)), some (.inl (q)), some (.inl (v1)), none] [.inl (v1), rf 13 (ka)] σ (w, σ') := h
        replace h := ei_iald h rfl (fun _ => rfl)
        obtain ⟨vp20, f, g, h⟩ := h
        clear g
        replace h : EV F f 81 z81 32 [some (rf 5 (a)), some (.inl (key)), some (.inl (q)), some (.inl (v1)), none] [.inl (m_i σ 13 ka (v1).toNatClampNeg)] σ (w, σ') := h
        replace vp20 := vp_ok.mp vp20
        replace h := ei_p h rfl rfl rfl rfl
        obtain ⟨f, g, h⟩ := h
        clear g
        replace h : EV F f 81 z81 33 [some (rf 5 (a)), some (.inl (key)), some (.inl (q)), some (.inl (v1)), none] [.inl (key), .inl (m_i σ 13 ka (v1).toNatClampNeg)] σ (w, σ') := h
        replace h := ei_c h rfl rfl rfl
        rcases h with ⟨hp21, f, g, h⟩ | ⟨hp21, f, g, h⟩
        · skip
          replace hp21 : (m_i σ 13 ka (v1).toNatClampNeg).toInt ≠ (key).toInt := ic_ne.mp hp21
          clear g
          replace h : EV F f 81 z81 40 [some (rf 5 (a)), some (.inl (key)), some (.inl (q)), some (.inl (v1)), none] [] σ (w, σ') := h
          replace h := ei_p h rfl rfl rfl rfl
          obtain ⟨f, g, h⟩ := h
          clear g
          replace h : EV F f 81 z81 41 [some (rf 5 (a)), some (.inl (key)), some (.inl (q)), some (.inl (v1)), none] [.inl (Int32.ofInt 0)] σ (w, σ') := h
          replace h := ei_p h rfl rfl rfl rfl
          obtain ⟨f, g, h⟩ := h
          clear g
          replace h : EV F f 81 z81 43 [some (rf 5 (a)), some (.inl (key)), some (.inl (q)), some (.inl (v1)), some (.inl (Int32.ofInt 0))] [] σ (w, σ') := h
          replace h := ei_p h rfl rfl rfl rfl
          obtain ⟨f, g, h⟩ := h
          clear g
          replace h : EV F f 81 z81 44 [some (rf 5 (a)), some (.inl (key)), some (.inl (q)), some (.inl (v1)), some (.inl (Int32.ofInt 0))] [.inl (q)] σ (w, σ') := h
          replace h := ei_c h rfl rfl rfl
          rcases h with ⟨hp22, f, g, h⟩ | ⟨hp22, f, g, h⟩
          · skip
            replace hp22 : (q).toInt ≠ (0 : Int) := ic_ne.mp hp22
            clear g
            replace h : EV F f 81 z81 60 [some (rf 5 (a)), some (.inl (key)), some (.inl (q)), some (.inl (v1)), some (.inl (Int32.ofInt 0))] [] σ (w, σ') := h
            replace h := ei_p h rfl rfl rfl rfl
            obtain ⟨f, g, h⟩ := h
            clear g
            replace h : EV F f 81 z81 61 [some (rf 5 (a)), some (.inl (key)), some (.inl (q)), some (.inl (v1)), some (.inl (Int32.ofInt 0))] [.inl (q)] σ (w, σ') := h
            replace h := ei_c h rfl rfl rfl
            rcases h with ⟨hp23, f, g, h⟩ | ⟨hp23, f, g, h⟩
            · skip
              replace hp23 : (q).toInt = (0 : Int) := ic_eq.mp hp23
              clear g
              exfalso
              have := hp4; have := hp5; have := hp6; have := hp21; have := hp22; have := hp23; omega
            · skip
              replace hp23 : ¬ ((q).toInt = (0 : Int)) := (not_congr ic_eq).mp hp23
              clear g
              replace h : EV F f 81 z81 64 [some (rf 5 (a)), some (.inl (key)), some (.inl (q)), some (.inl (v1)), some (.inl (Int32.ofInt 0))] [] σ (w, σ') := h
              replace h := ei_p h rfl rfl rfl rfl
              obtain ⟨f, g, h⟩ := h
              clear g
              replace h : EV F f 81 z81 66 [some (rf 5 (a)), some (.inl (key)), some (.inl (q)), some (.inl (v1)), some (.inl (Int32.ofInt 0))] [.inl (Int32.ofInt 0)] σ (w, σ') := h
              replace h := ei_c h rfl rfl rfl
              rcases h with ⟨hp24, f, g, h⟩ | ⟨hp24, f, g, h⟩
              · skip
                clear g
                replace h : EV F f 81 z81 79 [some (rf 5 (a)), some (.inl (key)), some (.inl (q)), some (.inl (v1)), some (.inl (Int32.ofInt 0))] [] σ (w, σ') := h
                replace h := ei_p h rfl rfl rfl rfl
                obtain ⟨f, g, h⟩ := h
                clear g
                replace h : EV F f 81 z81 80 [some (rf 5 (a)), some (.inl (key)), some (.inl (q)), some (.inl (v1)), some (.inl (Int32.ofInt 0))] [.inl (q)] σ (w, σ') := h
                replace h := ei_c h rfl rfl rfl
                rcases h with ⟨hp25, f, g, h⟩ | ⟨hp25, f, g, h⟩
                · skip
                  replace hp25 : (q).toInt = (0 : Int) := ic_eq.mp hp25
                  clear g
                  exfalso
                  have := hp4; have := hp5; have := hp6; have := hp21; have := hp22; have := hp23; have := hp24; have := hp25; omega
                · skip
                  replace hp25 : ¬ ((q).toInt = (0 : Int)) := (not_congr ic_eq).mp hp25
                  clear g
                  replace h : EV F f 81 z81 83 [some (rf 5 (a)), some (.inl (key)), some (.inl (q)), some (.inl (v1)), some (.inl (Int32.ofInt 0))] [] σ (w, σ') := h
                  replace h := ei_p h rfl rfl rfl rfl
                  obtain ⟨f, g, h⟩ := h
                  clear g
                  replace h : EV F f 81 z81 84 [some (rf 5 (a)), some (.inl (key)), some (.inl (q)), some (.inl (v1)), some (.inl (Int32.ofInt 0))] [rf 5 (a)] σ (w, σ') := h
                  replace h := ei_get h rfl rfl
                  obtain ⟨f, g, h⟩ := h
                  clear g
                  replace h : EV F f 81 z81 87 [some (rf 5 (a)), some (.inl (key)), some (.inl (q)), some (.inl (v1)), some (.inl (Int32.ofInt 0))] [.inl (m_i σ 5 (a) (2))] σ (w, σ') := h
                  replace h := ei_p h rfl rfl rfl rfl
                  obtain ⟨f, g, h⟩ := h
                  clear g
                  replace h : EV F f 81 z81 90 [some (rf 5 (a)), some (.inl (key)), some (.inl (q)), some (.inl (v1)), some (.inl (Int32.ofInt 0))] [.inl (Int32.ofInt 480), .inl (m_i σ 5 (a) (2))] σ (w, σ') := h
                  replace h := ei_c h rfl rfl rfl
                  rcases h with ⟨hp26, f, g, h⟩ | ⟨hp26, f, g, h⟩
                  · skip
                    replace hp26 : (480 : Int) ≤ (m_i σ 5 (a) (2)).toInt := ic_ge.mp hp26
                    clear g
                    exfalso
                    have := hp4; have := hp5; have := hp6; have := hp21; have := hp22; have := hp23; have := hp24; have := hp25; have := hp26; omega
                  · skip
                    replace hp26 : ¬ ((480 : Int) ≤ (m_i σ 5 (a) (2)).toInt) := (not_congr ic_ge).mp hp26
                    clear g
                    replace h : EV F f 81 z81 93 [some (rf 5 (a)), some (.inl (key)), some (.inl (q)), some (.inl (v1)), some (.inl (Int32.ofInt 0))] [] σ (w, σ') := h
                    replace h := ei_p h rfl rfl rfl rfl
                    obtain ⟨f, g, h⟩ := h
                    clear g
                    replace h : EV F f 81 z81 94 [some (rf 5 (a)), some (.inl (key)), some (.inl (q)), some (.inl (v1)), some (.inl (Int32.ofInt 0))] [rf 5 (a)] σ (w, σ') := h
                    replace h := ei_p h rfl rfl rfl rfl
                    obtain ⟨f, g, h⟩ := h
                    clear g
                    replace h : EV F f 81 z81 95 [some (rf 5 (a)), some (.inl (key)), some (.inl (q)), some (.inl (v1)), some (.inl (Int32.ofInt 0))] [.inl (v1), rf 5 (a)] σ (w, σ') := h
                    replace h := bk_0 (ei_v (as := [.inl (v1)]) h rfl rfl rfl) rfl z82_at rfl
                    obtain ⟨τ28, r29, f, g, h⟩ := h
                    clear g
                    obtain ⟨_, hF, C, A, B⟩ := s82 hv ⟨by omega, by omega, hn8⟩ r29
                    replace h : EV F f 81 z81 98 [some (rf 5 (a)), some (.inl (key)), some (.inl (q)), some (.inl (v1)), some (.inl (Int32.ofInt 0))] [] τ28 (w, σ') := h
                    replace h := ei_p h rfl rfl rfl rfl
                    obtain ⟨f, g, h⟩ := h
                    clear g
                    replace h : EV F f 81 z81 99 [some (rf 5 (a)), some (.inl (key)), some (.inl (q)), some (.inl (v1)), some (.inl (Int32.ofInt 0))] [rf 5 (a)] τ28 (w, σ') := h
                    replace h := ei_get h rfl ((hF.get (c := 5) (i := a) (k := 0) (l5_n (by decide))).trans hv.1)
                    obtain ⟨f, g, h⟩ := h
                    clear g
                    replace h : EV F f 81 z81 102 [some (rf 5 (a)), some (.inl (key)), some (.inl (q)), some (.inl (v1)), some (.inl (Int32.ofInt 0))] [rf 13 (ka)] τ28 (w, σ') := h
                    replace h := ei_p h rfl rfl rfl rfl
                    obtain ⟨f, g, h⟩ := h
                    clear g
                    replace h : EV F f 81 z81 103 [some (rf 5 (a)), some (.inl (key)), some (.inl (q)), some (.inl (v1)), some (.inl (Int32.ofInt 0))] [.inl (v1), rf 13 (ka)] τ28 (w, σ') := h
                    replace h := ei_p h rfl rfl rfl rfl
                    obtain ⟨f, g, h⟩ := h
                    clear g
                    replace h : EV F f 81 z81 104 [some (rf 5 (a)), some (.inl (key)), some (.inl (q)), some (.inl (v1)), some (.inl (Int32.ofInt 0))] [.inl (key), .inl (v1), rf 13 (ka)] τ28 (w, σ') := h
                    replace h := ei_iast h rfl
                    obtain ⟨vp30, f, g, h⟩ := h
                    clear g
                    replace h : EV F f 81 z81 105 [some (rf 5 (a)), some (.inl (key)), some (.inl (q)), some (.inl (v1)), some (.inl (Int32.ofInt 0))] [] (m_set τ28 13 (ka) (v1).toNatClampNeg (.inl (key))) (w, σ') := h
                    replace vp30 := vp_ok.mp vp30
                    replace h := ei_p h rfl rfl rfl rfl
                    obtain ⟨f, g, h⟩ := h
                    clear g
                    replace h : EV F f 81 z81 106 [some (rf 5 (a)), some (.inl (key)), some (.inl (q)), some (.inl (v1)), some (.inl (Int32.ofInt 0))] [rf 5 (a)] (m_set τ28 13 (ka) (v1).toNatClampNeg (.inl (key))) (w, σ') := h
                    replace h := ei_get h rfl ((m_get_ne _ _ (fun z => by cases z.1)).trans ((hF.get (c := 5) (i := a) (k := 1) (l5_n (by decide))).trans hv.2.1))
                    obtain ⟨f, g, h⟩ := h
                    clear g
                    replace h : EV F f 81 z81 109 [some (rf 5 (a)), some (.inl (key)), some (.inl (q)), some (.inl (v1)), some (.inl (Int32.ofInt 0))] [rf 13 (qa)] (m_set τ28 13 (ka) (v1).toNatClampNeg (.inl (key))) (w, σ') := h
                    replace h := ei_p h rfl rfl rfl rfl
                    obtain ⟨f, g, h⟩ := h
                    clear g
                    replace h : EV F f 81 z81 110 [some (rf 5 (a)), some (.inl (key)), some (.inl (q)), some (.inl (v1)), some (.inl (Int32.ofInt 0))] [.inl (v1), rf 13 (qa)] (m_set τ28 13 (ka) (v1).toNatClampNeg (.inl (key))) (w, σ') := h
                    replace h := ei_p h rfl rfl rfl rfl
                    obtain ⟨f, g, h⟩ := h
                    clear g
                    replace h : EV F f 81 z81 111 [some (rf 5 (a)), some (.inl (key)), some (.inl (q)), some (.inl (v1)), some (.inl (Int32.ofInt 0))] [.inl (q), .inl (v1), rf 13 (qa)] (m_set τ28 13 (ka) (v1).toNatClampNeg (.inl (key))) (w, σ') := h
                    replace h := ei_iast h rfl
                    obtain ⟨vp31, f, g, h⟩ := h
                    clear g
                    replace h : EV F f 81 z81 112 [some (rf 5 (a)), some (.inl (key)), some (.inl (q)), some (.inl (v1)), some (.inl (Int32.ofInt 0))] [] (m_set (m_set τ28 13 (ka) (v1).toNatClampNeg (.inl (key))) 13 (qa) (v1).toNatClampNeg (.inl (q))) (w, σ') := h
                    replace vp31 := vp_lo vp31
                    have e := ei_ret h rfl
                    cases e
                    have hh : ¬ ((v1).toNatClampNeg < n ∧ lK σ ka (v1).toNatClampNeg = key.toInt) := fun z => by
                      have z2 : (m_i σ 13 ka (v1).toNatClampNeg).toInt = key.toInt := z.2
                      have := hp4; have := hp5; have := hp6; have := hp21; have := hp22; have := hp23; have := hp24; have := hp25; have := hp26; omega
                    have hq : q.toInt ≠ 0 := by have := hp4; have := hp5; have := hp6; have := hp21; have := hp22; have := hp23; have := hp24; have := hp25; have := hp26; omega
                    have F2 : fr3 (l5 a ka qa) σ (m_set (m_set τ28 13 (ka) (v1).toNatClampNeg (.inl (key))) 13 (qa) (v1).toNatClampNeg (.inl (q))) := (hF.set (Or.inr ⟨rfl, Or.inl rfl⟩)).set (Or.inr ⟨rfl, Or.inr rfl⟩)
                    refine ⟨rfl, F2, n + 1, lv_fr F2 hv ((congrArg Int32.toInt ((mi_si.trans (if_neg (fun z => by cases z.1))).trans (mi_si.trans (if_neg (fun z => by cases z.1))))).trans (by omega)) (by omega), pD hS q2 q3 (by omega) hh (fun j hj => ?_) (fun j hj hj2 => ?_) ?_ ?_ hq⟩
                    · have g := A j (by omega)
                      exact ⟨congrArg Int32.toInt ((l2_k hkq).trans ((if_neg (by omega)).trans g.1)), congrArg Int32.toInt ((l2_q hkq).trans ((if_neg (by omega)).trans g.2))⟩
                    · have g := B j (by omega) (by omega)
                      exact ⟨congrArg Int32.toInt ((l2_k hkq).trans ((if_neg (by omega)).trans g.1)), congrArg Int32.toInt ((l2_q hkq).trans ((if_neg (by omega)).trans g.2))⟩
                    · exact congrArg Int32.toInt ((l2_k hkq).trans (if_pos rfl))
                    · exact congrArg Int32.toInt ((l2_q hkq).trans (if_pos rfl))
              · exact absurd (ic_eq.mpr (by decide)) hp24
          · skip
            replace hp22 : ¬ ((q).toInt ≠ (0 : Int)) := (not_congr ic_ne).mp hp22
            clear g
            replace h : EV F f 81 z81 47 [some (rf 5 (a)), some (.inl (key)), some (.inl (q)), some (.inl (v1)), some (.inl (Int32.ofInt 0))] [] σ (w, σ') := h
            replace h := ei_p h rfl rfl rfl rfl
            obtain ⟨f, g, h⟩ := h
            clear g
            replace h : EV F f 81 z81 49 [some (rf 5 (a)), some (.inl (key)), some (.inl (q)), some (.inl (v1)), some (.inl (Int32.ofInt 0))] [.inl (Int32.ofInt 0)] σ (w, σ') := h
            replace h := ei_c h rfl rfl rfl
            rcases h with ⟨hp32, f, g, h⟩ | ⟨hp32, f, g, h⟩
            · skip
              clear g
              replace h : EV F f 81 z81 60 [some (rf 5 (a)), some (.inl (key)), some (.inl (q)), some (.inl (v1)), some (.inl (Int32.ofInt 0))] [] σ (w, σ') := h
              replace h := ei_p h rfl rfl rfl rfl
              obtain ⟨f, g, h⟩ := h
              clear g
              replace h : EV F f 81 z81 61 [some (rf 5 (a)), some (.inl (key)), some (.inl (q)), some (.inl (v1)), some (.inl (Int32.ofInt 0))] [.inl (q)] σ (w, σ') := h
              replace h := ei_c h rfl rfl rfl
              rcases h with ⟨hp33, f, g, h⟩ | ⟨hp33, f, g, h⟩
              · skip
                replace hp33 : (q).toInt = (0 : Int) := ic_eq.mp hp33
                clear g
                replace h : EV F f 81 z81 79 [some (rf 5 (a)), some (.inl (key)), some (.inl (q)), some (.inl (v1)), some (.inl (Int32.ofInt 0))] [] σ (w, σ') := h
                replace h := ei_p h rfl rfl rfl rfl
                obtain ⟨f, g, h⟩ := h
                clear g
                replace h : EV F f 81 z81 80 [some (rf 5 (a)), some (.inl (key)), some (.inl (q)), some (.inl (v1)), some (.inl (Int32.ofInt 0))] [.inl (q)] σ (w, σ') := h
                replace h := ei_c h rfl rfl rfl
                rcases h with ⟨hp34, f, g, h⟩ | ⟨hp34, f, g, h⟩
                · skip
                  replace hp34 : (q).toInt = (0 : Int) := ic_eq.mp hp34
                  clear g
                  replace h : EV F f 81 z81 112 [some (rf 5 (a)), some (.inl (key)), some (.inl (q)), some (.inl (v1)), some (.inl (Int32.ofInt 0))] [] σ (w, σ') := h
                  have e := ei_ret h rfl
                  cases e
                  have hh : ¬ ((v1).toNatClampNeg < n ∧ lK σ ka (v1).toNatClampNeg = key.toInt) := fun z => by
                    have z2 : (m_i σ 13 ka (v1).toNatClampNeg).toInt = key.toInt := z.2
                    have := hp4; have := hp5; have := hp6; have := hp21; have := hp22; have := hp32; have := hp33; have := hp34; omega
                  have hq : q.toInt = 0 := by have := hp4; have := hp5; have := hp6; have := hp21; have := hp22; have := hp32; have := hp33; have := hp34; omega
                  exact ⟨rfl, fr3.rf, n, hv, pA hS q2 q3 hh hq⟩
                · skip
                  replace hp34 : ¬ ((q).toInt = (0 : Int)) := (not_congr ic_eq).mp hp34
                  clear g
                  exfalso
                  have := hp4; have := hp5; have := hp6; have := hp21; have := hp22; have := hp32; have := hp33; have := hp34; omega
              · skip
                replace hp33 : ¬ ((q).toInt = (0 : Int)) := (not_congr ic_eq).mp hp33
                clear g
                exfalso
                have := hp4; have := hp5; have := hp6; have := hp21; have := hp22; have := hp32; have := hp33; omega
            · exact absurd (ic_eq.mpr (by decide)) hp32
        · skip
          replace hp21 : ¬ ((m_i σ 13 ka (v1).toNatClampNeg).toInt ≠ (key).toInt) := (not_congr ic_ne).mp hp21
          clear g
          replace h : EV F f 81 z81 36 [some (rf 5 (a)), some (.inl (key)), some (.inl (q)), some (.inl (v1)), none] [] σ (w, σ') := h
          replace h := ei_p h rfl rfl rfl rfl
          obtain ⟨f, g, h⟩ := h
          clear g
          replace h : EV F f 81 z81 37 [some (rf 5 (a)), some (.inl (key)), some (.inl (q)), some (.inl (v1)), none] [.inl (Int32.ofInt 1)] σ (w, σ') := h
          replace h := ei_p h rfl rfl rfl rfl
          obtain ⟨f, g, h⟩ := h
          clear g
          replace h : EV F f 81 z81 41 [some (rf 5 (a)), some (.inl (key)), some (.inl (q)), some (.inl (v1)), none] [.inl (Int32.ofInt 1)] σ (w, σ') := h
          replace h := ei_p h rfl rfl rfl rfl
          obtain ⟨f, g, h⟩ := h
          clear g
          replace h : EV F f 81 z81 43 [some (rf 5 (a)), some (.inl (key)), some (.inl (q)), some (.inl (v1)), some (.inl (Int32.ofInt 1))] [] σ (w, σ') := h
          replace h := ei_p h rfl rfl rfl rfl
          obtain ⟨f, g, h⟩ := h
          clear g
          replace h : EV F f 81 z81 44 [some (rf 5 (a)), some (.inl (key)), some (.inl (q)), some (.inl (v1)), some (.inl (Int32.ofInt 1))] [.inl (q)] σ (w, σ') := h
          replace h := ei_c h rfl rfl rfl
          rcases h with ⟨hp35, f, g, h⟩ | ⟨hp35, f, g, h⟩
          · skip
            replace hp35 : (q).toInt ≠ (0 : Int) := ic_ne.mp hp35
            clear g
            replace h : EV F f 81 z81 60 [some (rf 5 (a)), some (.inl (key)), some (.inl (q)), some (.inl (v1)), some (.inl (Int32.ofInt 1))] [] σ (w, σ') := h
            replace h := ei_p h rfl rfl rfl rfl
            obtain ⟨f, g, h⟩ := h
            clear g
            replace h : EV F f 81 z81 61 [some (rf 5 (a)), some (.inl (key)), some (.inl (q)), some (.inl (v1)), some (.inl (Int32.ofInt 1))] [.inl (q)] σ (w, σ') := h
            replace h := ei_c h rfl rfl rfl
            rcases h with ⟨hp36, f, g, h⟩ | ⟨hp36, f, g, h⟩
            · skip
              replace hp36 : (q).toInt = (0 : Int) := ic_eq.mp hp36
              clear g
              exfalso
              have := hp4; have := hp5; have := hp6; have := hp21; have := hp35; have := hp36; omega
            · skip
              replace hp36 : ¬ ((q).toInt = (0 : Int)) := (not_congr ic_eq).mp hp36
              clear g
              replace h : EV F f 81 z81 64 [some (rf 5 (a)), some (.inl (key)), some (.inl (q)), some (.inl (v1)), some (.inl (Int32.ofInt 1))] [] σ (w, σ') := h
              replace h := ei_p h rfl rfl rfl rfl
              obtain ⟨f, g, h⟩ := h
              clear g
              replace h : EV F f 81 z81 66 [some (rf 5 (a)), some (.inl (key)), some (.inl (q)), some (.inl (v1)), some (.inl (Int32.ofInt 1))] [.inl (Int32.ofInt 1)] σ (w, σ') := h
              replace h := ei_c h rfl rfl rfl
              rcases h with ⟨hp37, f, g, h⟩ | ⟨hp37, f, g, h⟩
              · exact absurd (ic_eq.mp hp37) (by decide)
              · skip
                clear g
                replace h : EV F f 81 z81 69 [some (rf 5 (a)), some (.inl (key)), some (.inl (q)), some (.inl (v1)), some (.inl (Int32.ofInt 1))] [] σ (w, σ') := h
                replace h := ei_p h rfl rfl rfl rfl
                obtain ⟨f, g, h⟩ := h
                clear g
                replace h : EV F f 81 z81 70 [some (rf 5 (a)), some (.inl (key)), some (.inl (q)), some (.inl (v1)), some (.inl (Int32.ofInt 1))] [rf 5 (a)] σ (w, σ') := h
                replace h := ei_get h rfl hv.2.1
                obtain ⟨f, g, h⟩ := h
                clear g
                replace h : EV F f 81 z81 73 [some (rf 5 (a)), some (.inl (key)), some (.inl (q)), some (.inl (v1)), some (.inl (Int32.ofInt 1))] [rf 13 (qa)] σ (w, σ') := h
                replace h := ei_p h rfl rfl rfl rfl
                obtain ⟨f, g, h⟩ := h
                clear g
                replace h : EV F f 81 z81 74 [some (rf 5 (a)), some (.inl (key)), some (.inl (q)), some (.inl (v1)), some (.inl (Int32.ofInt 1))] [.inl (v1), rf 13 (qa)] σ (w, σ') := h
                replace h := ei_p h rfl rfl rfl rfl
                obtain ⟨f, g, h⟩ := h
                clear g
                replace h : EV F f 81 z81 75 [some (rf 5 (a)), some (.inl (key)), some (.inl (q)), some (.inl (v1)), some (.inl (Int32.ofInt 1))] [.inl (q), .inl (v1), rf 13 (qa)] σ (w, σ') := h
                replace h := ei_iast h rfl
                obtain ⟨vp38, f, g, h⟩ := h
                clear g
                replace h : EV F f 81 z81 76 [some (rf 5 (a)), some (.inl (key)), some (.inl (q)), some (.inl (v1)), some (.inl (Int32.ofInt 1))] [] (m_set σ 13 (qa) (v1).toNatClampNeg (.inl (q))) (w, σ') := h
                replace vp38 := vp_ok.mp vp38
                replace h := ei_p h rfl rfl rfl rfl
                obtain ⟨f, g, h⟩ := h
                clear g
                replace h : EV F f 81 z81 112 [some (rf 5 (a)), some (.inl (key)), some (.inl (q)), some (.inl (v1)), some (.inl (Int32.ofInt 1))] [] (m_set σ 13 (qa) (v1).toNatClampNeg (.inl (q))) (w, σ') := h
                have e := ei_ret h rfl
                cases e
                have hh : lK σ ka (v1).toNatClampNeg = key.toInt := by have := hp4; have := hp5; have := hp6; have := hp21; have := hp35; have := hp36; have := hp37; show (m_i σ 13 ka (v1).toNatClampNeg).toInt = key.toInt; omega
                have pn : (v1).toNatClampNeg < n := by have := hp4; have := hp5; have := hp6; have := hp21; have := hp35; have := hp36; have := hp37; omega
                have hq : q.toInt ≠ 0 := by have := hp4; have := hp5; have := hp6; have := hp21; have := hp35; have := hp36; have := hp37; omega
                exact ⟨rfl, fr3.rf.set (Or.inr ⟨rfl, Or.inr rfl⟩), n, lv_fr (fr3.rf.set (Or.inr ⟨rfl, Or.inr rfl⟩)) hv ((congrArg Int32.toInt (mi_si.trans (if_neg (fun z => by cases z.1)))).trans hn) (by omega), pC hS pn hh (fun j => congrArg Int32.toInt (mi_si.trans (if_neg (fun z => hkq z.2.1)))) (fun j hj => congrArg Int32.toInt (mi_si.trans (if_neg (fun z => hj z.2.2)))) (congrArg Int32.toInt (mi_si.trans (if_pos ⟨rfl, rfl, rfl⟩))) hq⟩
          · skip
            replace hp35 : ¬ ((q).toInt ≠ (0 : Int)) := (not_congr ic_ne).mp hp35
            clear g
            replace h : EV F f 81 z81 47 [some (rf 5 (a)), some (.inl (key)), some (.inl (q)), some (.inl (v1)), some (.inl (Int32.ofInt 1))] [] σ (w, σ') := h
            replace h := ei_p h rfl rfl rfl rfl
            obtain ⟨f, g, h⟩ := h
            clear g
            replace h : EV F f 81 z81 49 [some (rf 5 (a)), some (.inl (key)), some (.inl (q)), some (.inl (v1)), some (.inl (Int32.ofInt 1))] [.inl (Int32.ofInt 1)] σ (w, σ') := h
            replace h := ei_c h rfl rfl rfl
            rcases h with ⟨hp39, f, g, h⟩ | ⟨hp39, f, g, h⟩
            · exact absurd (ic_eq.mp hp39) (by decide)
            · skip
              clear g
              replace h : EV F f 81 z81 52 [some (rf 5 (a)), some (.inl (key)), some (.inl (q)), some (.inl (v1)), some (.inl (Int32.ofInt 1))] [] σ (w, σ') := h
              replace h := ei_p h rfl rfl rfl rfl
              obtain ⟨f, g, h⟩ := h
              clear g
              replace h : EV F f 81 z81 53 [some (rf 5 (a)), some (.inl (key)), some (.inl (q)), some (.inl (v1)), some (.inl (Int32.ofInt 1))] [rf 5 (a)] σ (w, σ') := h
              replace h := ei_p h rfl rfl rfl rfl
              obtain ⟨f, g, h⟩ := h
              clear g
              replace h : EV F f 81 z81 54 [some (rf 5 (a)), some (.inl (key)), some (.inl (q)), some (.inl (v1)), some (.inl (Int32.ofInt 1))] [.inl (v1), rf 5 (a)] σ (w, σ') := h
              replace h := bk_0 (ei_v (as := [.inl (v1)]) h rfl rfl rfl) rfl z83_at rfl
              obtain ⟨τ41, r42, f, g, h⟩ := h
              clear g
              obtain ⟨_, hF, C, A, B⟩ := s83 hv ⟨by omega, by have := hp4; have := hp5; have := hp6; have := hp21; have := hp35; have := hp39; omega⟩ r42
              replace h : EV F f 81 z81 57 [some (rf 5 (a)), some (.inl (key)), some (.inl (q)), some (.inl (v1)), some (.inl (Int32.ofInt 1))] [] τ41 (w, σ') := h
              replace h := ei_p h rfl rfl rfl rfl
              obtain ⟨f, g, h⟩ := h
              clear g
              replace h : EV F f 81 z81 112 [some (rf 5 (a)), some (.inl (key)), some (.inl (q)), some (.inl (v1)), some (.inl (Int32.ofInt 1))] [] τ41 (w, σ') := h
              have e := ei_ret h rfl
              cases e
              have hh : lK σ ka (v1).toNatClampNeg = key.toInt := by have := hp4; have := hp5; have := hp6; have := hp21; have := hp35; have := hp39; show (m_i σ 13 ka (v1).toNatClampNeg).toInt = key.toInt; omega
              have pn : (v1).toNatClampNeg < n := by have := hp4; have := hp5; have := hp6; have := hp21; have := hp35; have := hp39; omega
              have hq : q.toInt = 0 := by have := hp4; have := hp5; have := hp6; have := hp21; have := hp35; have := hp39; omega
              exact ⟨rfl, hF, n - 1, lv_fr hF hv (by omega) (by omega), pB hS pn hh (by omega) (fun j hj => by
                have g := A j (by omega)
                exact ⟨congrArg Int32.toInt g.1, congrArg Int32.toInt g.2⟩) (fun j hj hj2 => by
                have g := B j (by omega) (by omega)
                exact ⟨congrArg Int32.toInt g.1, congrArg Int32.toInt g.2⟩) hq⟩
    · skip
      replace hp5 : ¬ ((v1).toInt < (480 : Int)) := (not_congr ic_lt).mp hp5
      clear g
      exfalso
      have := hp4; have := hp5; omega
