/-! the feed: a reader reads the next message -/
def z55 : mAl := ((yX3_readNext, cX3_readNext, 3, (some .int), { frames := 2, cells := 0, slots := 0, locals := 46 }, []), rw_X3_readNext, false)
theorem z55_at : m_alF[55]? = some z55 := rfl
theorem s55 {σ σ' : mS} {t rd mk mq a ka qa n : Nat} {w : mX} (hd : fd σ t mk mq) (hr : m_get σ 9 rd 0 = rf 5 a) (hv : lv σ a ka qa n) (hS : lS σ ka n) (hn8 : n < 480) (d1 : mk ≠ ka) (d2 : mk ≠ qa) (hc : 0 ≤ (m_i σ 3 t 5).toInt) (hx : 0 ≤ (m_i σ 9 rd 1).toInt) (h : ev_run sm_all 55 [rf 3 t, rf 9 rd] σ w σ') :
    ((m_i σ 3 t 5).toInt ≤ (m_i σ 9 rd 1).toInt ∧ w = .inl (some (.inl (Int32.ofInt (-1)))) ∧ σ' = σ) ∨
    ((m_i σ 9 rd 1).toInt < (m_i σ 3 t 5).toInt - 30 ∧ w = .inl (some (.inl (Int32.ofInt (-2)))) ∧ σ' = m_set σ 9 rd 1 (.inl (m_i σ 3 t 5 - Int32.ofInt 30))) ∨
    ((m_i σ 9 rd 1).toInt < (m_i σ 3 t 5).toInt ∧ (m_i σ 3 t 5).toInt - 30 ≤ (m_i σ 9 rd 1).toInt ∧ ∃ (v : Int32) (n' : Nat), v.toInt = (m_i σ 9 rd 1).toInt % 30 ∧ w = .inl (some (.inl (m_i σ 13 mk v.toNatClampNeg))) ∧ fr3 (l5 a ka qa) (m_set σ 9 rd 1 (.inl (m_i σ 9 rd 1 + Int32.ofInt 1))) σ' ∧ lv σ' a ka qa n' ∧ pR n (lK σ ka) (lQ σ qa) n' (lK σ' ka) (lQ σ' qa) (m_i σ 13 mk v.toNatClampNeg).toInt (m_i σ 13 mq v.toNatClampNeg).toInt) := by
  obtain ⟨F, f, h⟩ := ei_go h z55_at
  have cb := (i_b (m_i σ 3 t 5)).2
  have e30 : (m_i σ 3 t 5 - Int32.ofInt 30).toInt = (m_i σ 3 t 5).toInt - 30 := by rw [i_sub (by rw [i_30]; omega) (by rw [i_30]; omega), i_30]
  replace h : EV F f 55 z55 0 [some (rf 3 (t)), some (rf 9 (rd)), none] [] σ (w, σ') := h
  replace h := ei_p h rfl rfl rfl rfl
  obtain ⟨f, g, h⟩ := h
  clear g
  replace h : EV F f 55 z55 1 [some (rf 3 (t)), some (rf 9 (rd)), none] [rf 9 (rd)] σ (w, σ') := h
  replace h := ei_get h rfl rfl
  obtain ⟨f, g, h⟩ := h
  clear g
  replace h : EV F f 55 z55 4 [some (rf 3 (t)), some (rf 9 (rd)), none] [.inl (m_i σ 9 (rd) (1))] σ (w, σ') := h
  replace h := ei_p h rfl rfl rfl rfl
  obtain ⟨f, g, h⟩ := h
  clear g
  replace h : EV F f 55 z55 5 [some (rf 3 (t)), some (rf 9 (rd)), none] [rf 3 (t), .inl (m_i σ 9 (rd) (1))] σ (w, σ') := h
  replace h := ei_get h rfl rfl
  obtain ⟨f, g, h⟩ := h
  clear g
  replace h : EV F f 55 z55 8 [some (rf 3 (t)), some (rf 9 (rd)), none] [.inl (m_i σ 3 (t) (5)), .inl (m_i σ 9 (rd) (1))] σ (w, σ') := h
  replace h := ei_c h rfl rfl rfl
  rcases h with ⟨hp1, f, g, h⟩ | ⟨hp1, f, g, h⟩
  · skip
    replace hp1 : (m_i σ 9 (rd) (1)).toInt < (m_i σ 3 (t) (5)).toInt := ic_lt.mp hp1
    clear g
    replace h : EV F f 55 z55 13 [some (rf 3 (t)), some (rf 9 (rd)), none] [] σ (w, σ') := h
    replace h := ei_p h rfl rfl rfl rfl
    obtain ⟨f, g, h⟩ := h
    clear g
    replace h : EV F f 55 z55 14 [some (rf 3 (t)), some (rf 9 (rd)), none] [rf 9 (rd)] σ (w, σ') := h
    replace h := ei_get h rfl rfl
    obtain ⟨f, g, h⟩ := h
    clear g
    replace h : EV F f 55 z55 17 [some (rf 3 (t)), some (rf 9 (rd)), none] [.inl (m_i σ 9 (rd) (1))] σ (w, σ') := h
    replace h := ei_p h rfl rfl rfl rfl
    obtain ⟨f, g, h⟩ := h
    clear g
    replace h : EV F f 55 z55 18 [some (rf 3 (t)), some (rf 9 (rd)), none] [rf 3 (t), .inl (m_i σ 9 (rd) (1))] σ (w, σ') := h
    replace h := ei_get h rfl rfl
    obtain ⟨f, g, h⟩ := h
    clear g
    replace h : EV F f 55 z55 21 [some (rf 3 (t)), some (rf 9 (rd)), none] [.inl (m_i σ 3 (t) (5)), .inl (m_i σ 9 (rd) (1))] σ (w, σ') := h
    replace h := ei_p h rfl rfl rfl rfl
    obtain ⟨f, g, h⟩ := h
    clear g
    replace h : EV F f 55 z55 23 [some (rf 3 (t)), some (rf 9 (rd)), none] [.inl (Int32.ofInt 30), .inl (m_i σ 3 (t) (5)), .inl (m_i σ 9 (rd) (1))] σ (w, σ') := h
    replace h := ei_p h rfl rfl rfl rfl
    obtain ⟨f, g, h⟩ := h
    clear g
    replace h : EV F f 55 z55 24 [some (rf 3 (t)), some (rf 9 (rd)), none] [.inl ((m_i σ 3 (t) (5)) - (Int32.ofInt 30)), .inl (m_i σ 9 (rd) (1))] σ (w, σ') := h
    replace h := ei_c h rfl rfl rfl
    rcases h with ⟨hp2, f, g, h⟩ | ⟨hp2, f, g, h⟩
    · skip
      replace hp2 : ((m_i σ 3 (t) (5)) - (Int32.ofInt 30)).toInt ≤ (m_i σ 9 (rd) (1)).toInt := ic_ge.mp hp2
      clear g
      replace h : EV F f 55 z55 41 [some (rf 3 (t)), some (rf 9 (rd)), none] [] σ (w, σ') := h
      replace h := ei_p h rfl rfl rfl rfl
      obtain ⟨f, g, h⟩ := h
      clear g
      replace h : EV F f 55 z55 42 [some (rf 3 (t)), some (rf 9 (rd)), none] [rf 9 (rd)] σ (w, σ') := h
      replace h := ei_get h rfl rfl
      obtain ⟨f, g, h⟩ := h
      clear g
      replace h : EV F f 55 z55 45 [some (rf 3 (t)), some (rf 9 (rd)), none] [.inl (m_i σ 9 (rd) (1))] σ (w, σ') := h
      replace h := ei_p h rfl rfl rfl rfl
      obtain ⟨f, g, h⟩ := h
      clear g
      replace h : EV F f 55 z55 47 [some (rf 3 (t)), some (rf 9 (rd)), none] [.inl (Int32.ofInt 30), .inl (m_i σ 9 (rd) (1))] σ (w, σ') := h
      replace h := bk_I (ei_s (as := [.inl (Int32.ofInt 30), .inl (m_i σ 9 (rd) (1))]) h rfl (Nat.le_of_ble_eq_true rfl) rfl rfl) rfl z190_at (Or.inl rfl)
      obtain ⟨v3, τ4, r5, f, g, h⟩ := h
      clear g
      obtain ⟨pr5, e1r5, er5, D⟩ := s190 hx r5
      cases e1r5
      rw [er5] at h
      replace h : EV F f 55 z55 50 [some (rf 3 (t)), some (rf 9 (rd)), none] [.inl (v3)] σ (w, σ') := h
      replace h := ei_p h rfl rfl rfl rfl
      obtain ⟨f, g, h⟩ := h
      clear g
      replace h : EV F f 55 z55 51 [some (rf 3 (t)), some (rf 9 (rd)), some (.inl (v3))] [] σ (w, σ') := h
      replace h := ei_p h rfl rfl rfl rfl
      obtain ⟨f, g, h⟩ := h
      clear g
      replace h : EV F f 55 z55 52 [some (rf 3 (t)), some (rf 9 (rd)), some (.inl (v3))] [rf 9 (rd)] σ (w, σ') := h
      replace h := ei_p h rfl rfl rfl rfl
      obtain ⟨f, g, h⟩ := h
      clear g
      replace h : EV F f 55 z55 53 [some (rf 3 (t)), some (rf 9 (rd)), some (.inl (v3))] [rf 9 (rd), rf 9 (rd)] σ (w, σ') := h
      replace h := ei_get h rfl rfl
      obtain ⟨f, g, h⟩ := h
      clear g
      replace h : EV F f 55 z55 56 [some (rf 3 (t)), some (rf 9 (rd)), some (.inl (v3))] [.inl (m_i σ 9 (rd) (1)), rf 9 (rd)] σ (w, σ') := h
      replace h := ei_p h rfl rfl rfl rfl
      obtain ⟨f, g, h⟩ := h
      clear g
      replace h : EV F f 55 z55 57 [some (rf 3 (t)), some (rf 9 (rd)), some (.inl (v3))] [.inl (Int32.ofInt 1), .inl (m_i σ 9 (rd) (1)), rf 9 (rd)] σ (w, σ') := h
      replace h := ei_p h rfl rfl rfl rfl
      obtain ⟨f, g, h⟩ := h
      clear g
      replace h : EV F f 55 z55 58 [some (rf 3 (t)), some (rf 9 (rd)), some (.inl (v3))] [.inl ((m_i σ 9 (rd) (1)) + (Int32.ofInt 1)), rf 9 (rd)] σ (w, σ') := h
      replace h := ei_put h rfl
      obtain ⟨ht6, f, g, h⟩ := h
      clear g
      replace h : EV F f 55 z55 61 [some (rf 3 (t)), some (rf 9 (rd)), some (.inl (v3))] [] (m_set σ 9 (rd) 1 (.inl ((m_i σ 9 (rd) (1)) + (Int32.ofInt 1)))) (w, σ') := h
      replace h := ei_p h rfl rfl rfl rfl
      obtain ⟨f, g, h⟩ := h
      clear g
      replace h : EV F f 55 z55 62 [some (rf 3 (t)), some (rf 9 (rd)), some (.inl (v3))] [rf 9 (rd)] (m_set σ 9 (rd) 1 (.inl ((m_i σ 9 (rd) (1)) + (Int32.ofInt 1)))) (w, σ') := h
      replace h := ei_get h rfl ((m_get_ne _ _ (fun z => by cases z.2.2)).trans hr)
      obtain ⟨f, g, h⟩ := h
      clear g
      replace h : EV F f 55 z55 65 [some (rf 3 (t)), some (rf 9 (rd)), some (.inl (v3))] [rf 5 (a)] (m_set σ 9 (rd) 1 (.inl ((m_i σ 9 (rd) (1)) + (Int32.ofInt 1)))) (w, σ') := h
      replace h := ei_p h rfl rfl rfl rfl
      obtain ⟨f, g, h⟩ := h
      clear g
      replace h : EV F f 55 z55 66 [some (rf 3 (t)), some (rf 9 (rd)), some (.inl (v3))] [rf 3 (t), rf 5 (a)] (m_set σ 9 (rd) 1 (.inl ((m_i σ 9 (rd) (1)) + (Int32.ofInt 1)))) (w, σ') := h
      replace h := ei_get h rfl ((m_get_ne _ _ (fun z => by cases z.1)).trans hd.1)
      obtain ⟨f, g, h⟩ := h
      clear g
      replace h : EV F f 55 z55 69 [some (rf 3 (t)), some (rf 9 (rd)), some (.inl (v3))] [rf 13 (mk), rf 5 (a)] (m_set σ 9 (rd) 1 (.inl ((m_i σ 9 (rd) (1)) + (Int32.ofInt 1)))) (w, σ') := h
      replace h := ei_p h rfl rfl rfl rfl
      obtain ⟨f, g, h⟩ := h
      clear g
      replace h : EV F f 55 z55 70 [some (rf 3 (t)), some (rf 9 (rd)), some (.inl (v3))] [.inl (v3), rf 13 (mk), rf 5 (a)] (m_set σ 9 (rd) 1 (.inl ((m_i σ 9 (rd) (1)) + (Int32.ofInt 1)))) (w, σ') := h
      replace h := ei_iald h rfl (fun _ => mi_si.trans (if_neg (fun z => by cases z.1)))
      obtain ⟨vp7, f, g, h⟩ := h
      clear g
      replace h : EV F f 55 z55 71 [some (rf 3 (t)), some (rf 9 (rd)), some (.inl (v3))] [.inl (m_i σ 13 mk (v3).toNatClampNeg), rf 5 (a)] (m_set σ 9 (rd) 1 (.inl ((m_i σ 9 (rd) (1)) + (Int32.ofInt 1)))) (w, σ') := h
      replace vp7 := vp_lo vp7
      replace h := ei_p h rfl rfl rfl rfl
      obtain ⟨f, g, h⟩ := h
      clear g
      replace h : EV F f 55 z55 72 [some (rf 3 (t)), some (rf 9 (rd)), some (.inl (v3))] [rf 3 (t), .inl (m_i σ 13 mk (v3).toNatClampNeg), rf 5 (a)] (m_set σ 9 (rd) 1 (.inl ((m_i σ 9 (rd) (1)) + (Int32.ofInt 1)))) (w, σ') := h
      replace h := ei_get h rfl ((m_get_ne _ _ (fun z => by cases z.1)).trans hd.2)
      obtain ⟨f, g, h⟩ := h
      clear g
      replace h : EV F f 55 z55 75 [some (rf 3 (t)), some (rf 9 (rd)), some (.inl (v3))] [rf 13 (mq), .inl (m_i σ 13 mk (v3).toNatClampNeg), rf 5 (a)] (m_set σ 9 (rd) 1 (.inl ((m_i σ 9 (rd) (1)) + (Int32.ofInt 1)))) (w, σ') := h
      replace h := ei_p h rfl rfl rfl rfl
      obtain ⟨f, g, h⟩ := h
      clear g
      replace h : EV F f 55 z55 76 [some (rf 3 (t)), some (rf 9 (rd)), some (.inl (v3))] [.inl (v3), rf 13 (mq), .inl (m_i σ 13 mk (v3).toNatClampNeg), rf 5 (a)] (m_set σ 9 (rd) 1 (.inl ((m_i σ 9 (rd) (1)) + (Int32.ofInt 1)))) (w, σ') := h
      replace h := ei_iald h rfl (fun _ => mi_si.trans (if_neg (fun z => by cases z.1)))
      obtain ⟨vp8, f, g, h⟩ := h
      clear g
      replace h : EV F f 55 z55 77 [some (rf 3 (t)), some (rf 9 (rd)), some (.inl (v3))] [.inl (m_i σ 13 mq (v3).toNatClampNeg), .inl (m_i σ 13 mk (v3).toNatClampNeg), rf 5 (a)] (m_set σ 9 (rd) 1 (.inl ((m_i σ 9 (rd) (1)) + (Int32.ofInt 1)))) (w, σ') := h
      replace vp8 := vp_lo vp8
      replace h := bk_0 (ei_v (as := [.inl (m_i σ 13 mq (v3).toNatClampNeg), .inl (m_i σ 13 mk (v3).toNatClampNeg)]) h rfl rfl rfl) rfl z81_at rfl
      obtain ⟨τ10, r11, f, g, h⟩ := h
      clear g
      have hv2 : lv (m_set σ 9 (rd) 1 (.inl ((m_i σ 9 (rd) (1)) + (Int32.ofInt 1)))) a ka qa n := ⟨(m_get_ne _ _ (fun z => by cases z.1)).trans hv.1, (m_get_ne _ _ (fun z => by cases z.1)).trans hv.2.1, by rw [m_set_2]; exact hv.2.2.1, by rw [m_set_2]; exact hv.2.2.2.1, hv.2.2.2.2.1, hv.2.2.2.2.2.1, hv.2.2.2.2.2.2⟩
      obtain ⟨_, hF, n2, V2, R2⟩ := s81 hv2 hS hn8 r11
      replace h : EV F f 55 z55 80 [some (rf 3 (t)), some (rf 9 (rd)), some (.inl (v3))] [] τ10 (w, σ') := h
      replace h := ei_p h rfl rfl rfl rfl
      obtain ⟨f, g, h⟩ := h
      clear g
      replace h : EV F f 55 z55 81 [some (rf 3 (t)), some (rf 9 (rd)), some (.inl (v3))] [rf 3 (t)] τ10 (w, σ') := h
      replace h := ei_get h rfl ((hF.get (c := 3) (i := t) (k := 0) (l5_7 (by decide) (by decide))).trans ((m_get_ne _ _ (fun z => by cases z.1)).trans hd.1))
      obtain ⟨f, g, h⟩ := h
      clear g
      replace h : EV F f 55 z55 84 [some (rf 3 (t)), some (rf 9 (rd)), some (.inl (v3))] [rf 13 (mk)] τ10 (w, σ') := h
      replace h := ei_p h rfl rfl rfl rfl
      obtain ⟨f, g, h⟩ := h
      clear g
      replace h : EV F f 55 z55 85 [some (rf 3 (t)), some (rf 9 (rd)), some (.inl (v3))] [.inl (v3), rf 13 (mk)] τ10 (w, σ') := h
      replace h := ei_iald h rfl (fun _ => ((hF.2.2 13 mk _ (fun z => by
      rcases z with z | z
      · cases z.1
      · rcases z.2 with y | y
        · exact d1 y
        · exact d2 y)).1).trans (mi_si.trans (if_neg (fun z => by cases z.1))))
      obtain ⟨vp12, f, g, h⟩ := h
      clear g
      replace h : EV F f 55 z55 86 [some (rf 3 (t)), some (rf 9 (rd)), some (.inl (v3))] [.inl (m_i σ 13 mk (v3).toNatClampNeg)] τ10 (w, σ') := h
      replace vp12 := vp_ok.mp vp12
      have e := ei_iret h rfl
      cases e
      have y0 := hp1
      have y1 := hp2
      rw [e30] at y1
      exact Or.inr (Or.inr ⟨by omega, by omega, _, n2, D, rfl, hF, V2, R2⟩)
    · skip
      replace hp2 : ¬ (((m_i σ 3 (t) (5)) - (Int32.ofInt 30)).toInt ≤ (m_i σ 9 (rd) (1)).toInt) := (not_congr ic_ge).mp hp2
      clear g
      replace h : EV F f 55 z55 27 [some (rf 3 (t)), some (rf 9 (rd)), none] [] σ (w, σ') := h
      replace h := ei_p h rfl rfl rfl rfl
      obtain ⟨f, g, h⟩ := h
      clear g
      replace h : EV F f 55 z55 28 [some (rf 3 (t)), some (rf 9 (rd)), none] [rf 9 (rd)] σ (w, σ') := h
      replace h := ei_p h rfl rfl rfl rfl
      obtain ⟨f, g, h⟩ := h
      clear g
      replace h : EV F f 55 z55 29 [some (rf 3 (t)), some (rf 9 (rd)), none] [rf 3 (t), rf 9 (rd)] σ (w, σ') := h
      replace h := ei_get h rfl rfl
      obtain ⟨f, g, h⟩ := h
      clear g
      replace h : EV F f 55 z55 32 [some (rf 3 (t)), some (rf 9 (rd)), none] [.inl (m_i σ 3 (t) (5)), rf 9 (rd)] σ (w, σ') := h
      replace h := ei_p h rfl rfl rfl rfl
      obtain ⟨f, g, h⟩ := h
      clear g
      replace h : EV F f 55 z55 34 [some (rf 3 (t)), some (rf 9 (rd)), none] [.inl (Int32.ofInt 30), .inl (m_i σ 3 (t) (5)), rf 9 (rd)] σ (w, σ') := h
      replace h := ei_p h rfl rfl rfl rfl
      obtain ⟨f, g, h⟩ := h
      clear g
      replace h : EV F f 55 z55 35 [some (rf 3 (t)), some (rf 9 (rd)), none] [.inl ((m_i σ 3 (t) (5)) - (Int32.ofInt 30)), rf 9 (rd)] σ (w, σ') := h
      replace h := ei_put h rfl
      obtain ⟨ht13, f, g, h⟩ := h
      clear g
      replace h : EV F f 55 z55 38 [some (rf 3 (t)), some (rf 9 (rd)), none] [] (m_set σ 9 (rd) 1 (.inl ((m_i σ 3 (t) (5)) - (Int32.ofInt 30)))) (w, σ') := h
      replace h := ei_p h rfl rfl rfl rfl
      obtain ⟨f, g, h⟩ := h
      clear g
      replace h : EV F f 55 z55 40 [some (rf 3 (t)), some (rf 9 (rd)), none] [.inl (Int32.ofInt (-2))] (m_set σ 9 (rd) 1 (.inl ((m_i σ 3 (t) (5)) - (Int32.ofInt 30)))) (w, σ') := h
      have e := ei_iret h rfl
      cases e
      have y1 := hp2
      rw [e30] at y1
      exact Or.inr (Or.inl ⟨by omega, rfl, rfl⟩)
  · skip
    replace hp1 : ¬ ((m_i σ 9 (rd) (1)).toInt < (m_i σ 3 (t) (5)).toInt) := (not_congr ic_lt).mp hp1
    clear g
    replace h : EV F f 55 z55 11 [some (rf 3 (t)), some (rf 9 (rd)), none] [] σ (w, σ') := h
    replace h := ei_p h rfl rfl rfl rfl
    obtain ⟨f, g, h⟩ := h
    clear g
    replace h : EV F f 55 z55 12 [some (rf 3 (t)), some (rf 9 (rd)), none] [.inl (Int32.ofInt (-1))] σ (w, σ') := h
    have e := ei_iret h rfl
    cases e
    exact Or.inl ⟨Int.not_lt.mp hp1, rfl, rfl⟩
