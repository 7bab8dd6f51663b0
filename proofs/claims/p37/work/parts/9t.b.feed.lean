/-! floorMod of a count -/
def z190 : mAl := ((m_yfm, prog_19_method_50_code, 3, (some .int), { frames := 0, cells := 0, slots := 0, locals := 0 }, []), rw_fm, false)
theorem z190_at : m_alF[190]? = some z190 := by
  have e : m_al.length = 190 := by decide +kernel
  unfold m_alF
  rw [List.getElem?_append_right (by omega), e]
  rfl
theorem ei_irem {F j f pc : Nat} {z : mAl} {L : List (Option mV)} {st : List mV} {σ : mS} {q : mX × mS} {e : Nat × Nat × Nat × Int × List Nat} {x y : Int32} (h : EV F f j z pc L (.inl y :: .inl x :: st) σ q) (hr : m_at z.2.1 pc = some (.irem, e)) : y ≠ 0 ∧ ∃ f', f' < f ∧ EV F f' j z (pc + 1) L (.inl (x - x / y * y) :: st) σ q := by
  by_cases hy : y = 0
  · exact absurd ⟨rfl, by show (if y = 0 then none else some (pc + 1, L, .inl (x - x / y * y) :: st)) = none; rw [if_pos hy]⟩ (ei_ok h hr rfl)
  · obtain ⟨f', g, h⟩ := ei_p h hr rfl rfl (by show (if y = 0 then none else some (pc + 1, L, .inl (x - x / y * y) :: st)) = some _; rw [if_neg hy])
    exact ⟨hy, f', g, h⟩
theorem i_xor {x y : Int32} (hx : 0 ≤ x.toInt) (hy : 0 ≤ y.toInt) : 0 ≤ (x ^^^ y).toInt := by
  have a := BitVec.msb_eq_toInt (x := x.toBitVec)
  have b := BitVec.msb_eq_toInt (x := y.toBitVec)
  have c := BitVec.msb_eq_toInt (x := (x ^^^ y).toBitVec)
  have m : (x ^^^ y).toBitVec.msb = (x.toBitVec.msb ^^ y.toBitVec.msb) := by rw [Int32.toBitVec_xor]; exact BitVec.msb_xor
  rw [decide_eq_false (show ¬ x.toBitVec.toInt < 0 from by show ¬ x.toInt < 0; omega)] at a
  rw [decide_eq_false (show ¬ y.toBitVec.toInt < 0 from by show ¬ y.toInt < 0; omega)] at b
  rw [m, a, b] at c
  have d : ¬ (x ^^^ y).toBitVec.toInt < 0 := of_decide_eq_false c.symm
  have e : (x ^^^ y).toInt = (x ^^^ y).toBitVec.toInt := rfl
  omega
theorem i_30 : (Int32.ofInt 30).toInt = 30 := by decide
theorem i_rem {x : Int32} (hx : 0 ≤ x.toInt) : (x - x / Int32.ofInt 30 * Int32.ofInt 30).toInt = x.toInt % 30 := by
  have xb := (i_b x).2
  have e1 : (x / Int32.ofInt 30).toInt = x.toInt / 30 := by
    rw [Int32.toInt_div, i_30, Int.tdiv_eq_ediv_of_nonneg hx]
    exact bmod_id (by omega) (by omega)
  have e2 : (x / Int32.ofInt 30 * Int32.ofInt 30).toInt = x.toInt / 30 * 30 := by rw [i_mul (by rw [e1, i_30]; omega) (by rw [e1, i_30]; omega), e1, i_30]
  rw [i_sub (by rw [e2]; omega) (by rw [e2]; omega), e2]
  omega
theorem s190 {σ σ' : mS} {x : Int32} {w : mX} (hx : 0 ≤ x.toInt) (h : ev_run sm_all 190 [.inl x, .inl (Int32.ofInt 30)] σ w σ') : ∃ v : Int32, w = .inl (some (.inl v)) ∧ σ' = σ ∧ v.toInt = x.toInt % 30 := by
  obtain ⟨F, f, h⟩ := ei_go h z190_at
  replace h : EV F f 190 z190 0 [some (.inl (x)), some (.inl (Int32.ofInt 30)), none] [] σ (w, σ') := h
  replace h := ei_p h rfl rfl rfl rfl
  obtain ⟨f, g, h⟩ := h
  clear g
  replace h : EV F f 190 z190 1 [some (.inl (x)), some (.inl (Int32.ofInt 30)), none] [.inl (x)] σ (w, σ') := h
  replace h := ei_p h rfl rfl rfl rfl
  obtain ⟨f, g, h⟩ := h
  clear g
  replace h : EV F f 190 z190 2 [some (.inl (x)), some (.inl (Int32.ofInt 30)), none] [.inl (Int32.ofInt 30), .inl (x)] σ (w, σ') := h
  replace h := ei_irem h rfl
  obtain ⟨hd1, f, g, h⟩ := h
  clear g
  replace h : EV F f 190 z190 3 [some (.inl (x)), some (.inl (Int32.ofInt 30)), none] [.inl ((x) - (x) / (Int32.ofInt 30) * (Int32.ofInt 30))] σ (w, σ') := h
  replace h := ei_p h rfl rfl rfl rfl
  obtain ⟨f, g, h⟩ := h
  clear g
  replace h : EV F f 190 z190 4 [some (.inl (x)), some (.inl (Int32.ofInt 30)), some (.inl ((x) - (x) / (Int32.ofInt 30) * (Int32.ofInt 30)))] [] σ (w, σ') := h
  replace h := ei_p h rfl rfl rfl rfl
  obtain ⟨f, g, h⟩ := h
  clear g
  replace h : EV F f 190 z190 5 [some (.inl (x)), some (.inl (Int32.ofInt 30)), some (.inl ((x) - (x) / (Int32.ofInt 30) * (Int32.ofInt 30)))] [.inl (x)] σ (w, σ') := h
  replace h := ei_p h rfl rfl rfl rfl
  obtain ⟨f, g, h⟩ := h
  clear g
  replace h : EV F f 190 z190 6 [some (.inl (x)), some (.inl (Int32.ofInt 30)), some (.inl ((x) - (x) / (Int32.ofInt 30) * (Int32.ofInt 30)))] [.inl (Int32.ofInt 30), .inl (x)] σ (w, σ') := h
  replace h := ei_p h rfl rfl rfl rfl
  obtain ⟨f, g, h⟩ := h
  clear g
  replace h : EV F f 190 z190 7 [some (.inl (x)), some (.inl (Int32.ofInt 30)), some (.inl ((x) - (x) / (Int32.ofInt 30) * (Int32.ofInt 30)))] [.inl ((x) ^^^ (Int32.ofInt 30))] σ (w, σ') := h
  replace h := ei_c h rfl rfl rfl
  rcases h with ⟨hp2, f, g, h⟩ | ⟨hp2, f, g, h⟩
  · skip
    replace hp2 : (0 : Int) ≤ ((x) ^^^ (Int32.ofInt 30)).toInt := ic_ge.mp hp2
    clear g
    replace h : EV F f 190 z190 18 [some (.inl (x)), some (.inl (Int32.ofInt 30)), some (.inl ((x) - (x) / (Int32.ofInt 30) * (Int32.ofInt 30)))] [] σ (w, σ') := h
    replace h := ei_p h rfl rfl rfl rfl
    obtain ⟨f, g, h⟩ := h
    clear g
    replace h : EV F f 190 z190 19 [some (.inl (x)), some (.inl (Int32.ofInt 30)), some (.inl ((x) - (x) / (Int32.ofInt 30) * (Int32.ofInt 30)))] [.inl ((x) - (x) / (Int32.ofInt 30) * (Int32.ofInt 30))] σ (w, σ') := h
    have e := ei_iret h rfl
    cases e
    exact ⟨_, rfl, rfl, i_rem hx⟩
  · skip
    replace hp2 : ¬ ((0 : Int) ≤ ((x) ^^^ (Int32.ofInt 30)).toInt) := (not_congr ic_ge).mp hp2
    clear g
    exact absurd (i_xor hx (by decide)) hp2
/-- the feed's rows of messages -/
def fd (σ : mS) (t mk mq : Nat) : Prop := m_get σ 3 t 0 = rf 13 mk ∧ m_get σ 3 t 1 = rf 13 mq
theorem s54 {σ σ' : mS} {t mk mq : Nat} {key q : Int32} {w : mX} (hd : fd σ t mk mq) (hc : 0 ≤ (m_i σ 3 t 5).toInt) (h : ev_run sm_all 54 [rf 3 t, .inl key, .inl q] σ w σ') : w = .inl none ∧ ∃ v : Int32, v.toInt = (m_i σ 3 t 5).toInt % 30 ∧ σ' = m_set (m_set (m_set σ 13 mk v.toNatClampNeg (.inl key)) 13 mq v.toNatClampNeg (.inl q)) 3 t 5 (.inl (m_i σ 3 t 5 + Int32.ofInt 1)) := by
  obtain ⟨F, f, h⟩ := ei_go h z54_at
  replace h : EV F f 54 z54 0 [some (rf 3 (t)), some (.inl (key)), some (.inl (q)), none] [] σ (w, σ') := h
  replace h := ei_p h rfl rfl rfl rfl
  obtain ⟨f, g, h⟩ := h
  clear g
  replace h : EV F f 54 z54 1 [some (rf 3 (t)), some (.inl (key)), some (.inl (q)), none] [rf 3 (t)] σ (w, σ') := h
  replace h := ei_get h rfl rfl
  obtain ⟨f, g, h⟩ := h
  clear g
  replace h : EV F f 54 z54 4 [some (rf 3 (t)), some (.inl (key)), some (.inl (q)), none] [.inl (m_i σ 3 (t) (5))] σ (w, σ') := h
  replace h := ei_p h rfl rfl rfl rfl
  obtain ⟨f, g, h⟩ := h
  clear g
  replace h : EV F f 54 z54 6 [some (rf 3 (t)), some (.inl (key)), some (.inl (q)), none] [.inl (Int32.ofInt 30), .inl (m_i σ 3 (t) (5))] σ (w, σ') := h
  replace h := bk_I (ei_s (as := [.inl (Int32.ofInt 30), .inl (m_i σ 3 (t) (5))]) h rfl (Nat.le_of_ble_eq_true rfl) rfl rfl) rfl z190_at (Or.inl rfl)
  obtain ⟨v1, τ2, r3, f, g, h⟩ := h
  clear g
  obtain ⟨pr3, e1r3, er3, D⟩ := s190 hc r3
  cases e1r3
  rw [er3] at h
  replace h : EV F f 54 z54 9 [some (rf 3 (t)), some (.inl (key)), some (.inl (q)), none] [.inl (v1)] σ (w, σ') := h
  replace h := ei_p h rfl rfl rfl rfl
  obtain ⟨f, g, h⟩ := h
  clear g
  replace h : EV F f 54 z54 10 [some (rf 3 (t)), some (.inl (key)), some (.inl (q)), some (.inl (v1))] [] σ (w, σ') := h
  replace h := ei_p h rfl rfl rfl rfl
  obtain ⟨f, g, h⟩ := h
  clear g
  replace h : EV F f 54 z54 11 [some (rf 3 (t)), some (.inl (key)), some (.inl (q)), some (.inl (v1))] [rf 3 (t)] σ (w, σ') := h
  replace h := ei_get h rfl hd.1
  obtain ⟨f, g, h⟩ := h
  clear g
  replace h : EV F f 54 z54 14 [some (rf 3 (t)), some (.inl (key)), some (.inl (q)), some (.inl (v1))] [rf 13 (mk)] σ (w, σ') := h
  replace h := ei_p h rfl rfl rfl rfl
  obtain ⟨f, g, h⟩ := h
  clear g
  replace h : EV F f 54 z54 15 [some (rf 3 (t)), some (.inl (key)), some (.inl (q)), some (.inl (v1))] [.inl (v1), rf 13 (mk)] σ (w, σ') := h
  replace h := ei_p h rfl rfl rfl rfl
  obtain ⟨f, g, h⟩ := h
  clear g
  replace h : EV F f 54 z54 16 [some (rf 3 (t)), some (.inl (key)), some (.inl (q)), some (.inl (v1))] [.inl (key), .inl (v1), rf 13 (mk)] σ (w, σ') := h
  replace h := ei_iast h rfl
  obtain ⟨vp4, f, g, h⟩ := h
  clear g
  replace h : EV F f 54 z54 17 [some (rf 3 (t)), some (.inl (key)), some (.inl (q)), some (.inl (v1))] [] (m_set σ 13 (mk) (v1).toNatClampNeg (.inl (key))) (w, σ') := h
  replace vp4 := vp_ok.mp vp4
  replace h := ei_p h rfl rfl rfl rfl
  obtain ⟨f, g, h⟩ := h
  clear g
  replace h : EV F f 54 z54 18 [some (rf 3 (t)), some (.inl (key)), some (.inl (q)), some (.inl (v1))] [rf 3 (t)] (m_set σ 13 (mk) (v1).toNatClampNeg (.inl (key))) (w, σ') := h
  replace h := ei_get h rfl ((m_get_ne _ _ (fun z => by cases z.1)).trans hd.2)
  obtain ⟨f, g, h⟩ := h
  clear g
  replace h : EV F f 54 z54 21 [some (rf 3 (t)), some (.inl (key)), some (.inl (q)), some (.inl (v1))] [rf 13 (mq)] (m_set σ 13 (mk) (v1).toNatClampNeg (.inl (key))) (w, σ') := h
  replace h := ei_p h rfl rfl rfl rfl
  obtain ⟨f, g, h⟩ := h
  clear g
  replace h : EV F f 54 z54 22 [some (rf 3 (t)), some (.inl (key)), some (.inl (q)), some (.inl (v1))] [.inl (v1), rf 13 (mq)] (m_set σ 13 (mk) (v1).toNatClampNeg (.inl (key))) (w, σ') := h
  replace h := ei_p h rfl rfl rfl rfl
  obtain ⟨f, g, h⟩ := h
  clear g
  replace h : EV F f 54 z54 23 [some (rf 3 (t)), some (.inl (key)), some (.inl (q)), some (.inl (v1))] [.inl (q), .inl (v1), rf 13 (mq)] (m_set σ 13 (mk) (v1).toNatClampNeg (.inl (key))) (w, σ') := h
  replace h := ei_iast h rfl
  obtain ⟨vp5, f, g, h⟩ := h
  clear g
  replace h : EV F f 54 z54 24 [some (rf 3 (t)), some (.inl (key)), some (.inl (q)), some (.inl (v1))] [] (m_set (m_set σ 13 (mk) (v1).toNatClampNeg (.inl (key))) 13 (mq) (v1).toNatClampNeg (.inl (q))) (w, σ') := h
  replace vp5 := vp_lo vp5
  replace h := ei_p h rfl rfl rfl rfl
  obtain ⟨f, g, h⟩ := h
  clear g
  replace h : EV F f 54 z54 25 [some (rf 3 (t)), some (.inl (key)), some (.inl (q)), some (.inl (v1))] [rf 3 (t)] (m_set (m_set σ 13 (mk) (v1).toNatClampNeg (.inl (key))) 13 (mq) (v1).toNatClampNeg (.inl (q))) (w, σ') := h
  replace h := ei_p h rfl rfl rfl rfl
  obtain ⟨f, g, h⟩ := h
  clear g
  replace h : EV F f 54 z54 26 [some (rf 3 (t)), some (.inl (key)), some (.inl (q)), some (.inl (v1))] [rf 3 (t), rf 3 (t)] (m_set (m_set σ 13 (mk) (v1).toNatClampNeg (.inl (key))) 13 (mq) (v1).toNatClampNeg (.inl (q))) (w, σ') := h
  replace h := ei_get h rfl ((m_get_ne _ _ (fun z => by cases z.1)).trans ((m_get_ne _ _ (fun z => by cases z.1)).trans rfl))
  obtain ⟨f, g, h⟩ := h
  clear g
  replace h : EV F f 54 z54 29 [some (rf 3 (t)), some (.inl (key)), some (.inl (q)), some (.inl (v1))] [.inl (m_i σ 3 (t) (5)), rf 3 (t)] (m_set (m_set σ 13 (mk) (v1).toNatClampNeg (.inl (key))) 13 (mq) (v1).toNatClampNeg (.inl (q))) (w, σ') := h
  replace h := ei_p h rfl rfl rfl rfl
  obtain ⟨f, g, h⟩ := h
  clear g
  replace h : EV F f 54 z54 30 [some (rf 3 (t)), some (.inl (key)), some (.inl (q)), some (.inl (v1))] [.inl (Int32.ofInt 1), .inl (m_i σ 3 (t) (5)), rf 3 (t)] (m_set (m_set σ 13 (mk) (v1).toNatClampNeg (.inl (key))) 13 (mq) (v1).toNatClampNeg (.inl (q))) (w, σ') := h
  replace h := ei_p h rfl rfl rfl rfl
  obtain ⟨f, g, h⟩ := h
  clear g
  replace h : EV F f 54 z54 31 [some (rf 3 (t)), some (.inl (key)), some (.inl (q)), some (.inl (v1))] [.inl ((m_i σ 3 (t) (5)) + (Int32.ofInt 1)), rf 3 (t)] (m_set (m_set σ 13 (mk) (v1).toNatClampNeg (.inl (key))) 13 (mq) (v1).toNatClampNeg (.inl (q))) (w, σ') := h
  replace h := ei_put h rfl
  obtain ⟨ht6, f, g, h⟩ := h
  clear g
  replace h : EV F f 54 z54 34 [some (rf 3 (t)), some (.inl (key)), some (.inl (q)), some (.inl (v1))] [] (m_set (m_set (m_set σ 13 (mk) (v1).toNatClampNeg (.inl (key))) 13 (mq) (v1).toNatClampNeg (.inl (q))) 3 (t) 5 (.inl ((m_i σ 3 (t) (5)) + (Int32.ofInt 1)))) (w, σ') := h
  have e := ei_ret h rfl
  cases e
  exact ⟨rfl, _, D, rfl⟩
