/-! nextDifference -/
theorem s86 {σ σ' : mS} {a ka qa n b kb qb m : Nat} {key : Int32} {w : mX} (hv : lv σ a ka qa n) (hS : lS σ ka n) (hw : lv σ b kb qb m) (hS' : lS σ kb m) (h9 : n + m < 960) (hA : ∀ i, i < n → 0 ≤ lK σ ka i ∧ lK σ ka i < 1000000) (hB : ∀ i, i < m → 0 ≤ lK σ kb i ∧ lK σ kb i < 1000000) (hk : -1 ≤ key.toInt ∧ key.toInt < 1000000) (h : ev_run sm_all 86 [rf 5 a, rf 5 b, .inl key] σ w σ') : ∃ r : Int32, w = .inl (some (.inl r)) ∧ σ' = σ ∧ nD n (lK σ ka) (lQ σ qa) m (lK σ kb) (lQ σ qb) key.toInt r.toInt := by
  obtain ⟨F, f, h⟩ := ei_go h z86_at
  have loop : ∀ N f, f < N → ∀ (c i : Int32) (x5 x6 : Option mV) (p p' : Nat), -1 ≤ c.toInt → c.toInt < 1000000 → key.toInt ≤ c.toInt → 0 ≤ i.toInt → i.toInt ≤ p + p' → pl n (lK σ ka) c.toInt p → pl m (lK σ kb) c.toInt p' → (∀ k, key.toInt < k → k ≤ c.toInt → nE n (lK σ ka) (lQ σ qa) m (lK σ kb) (lQ σ qb) k) → EV F f 86 z86 5 [some (rf 5 a), some (rf 5 b), some (.inl key), some (.inl c), some (.inl i), x5, x6] [] σ (w, σ') → ∃ r : Int32, w = .inl (some (.inl r)) ∧ σ' = σ ∧ nD n (lK σ ka) (lQ σ qa) m (lK σ kb) (lQ σ qb) key.toInt r.toInt := by
    intro N
    induction N with
    | zero => intro f hf; omega
    | succ N IH =>
      intro f hf0 c i x5 x6 p p' c1 c2 c3 i1 i2 hp hp' E h
      have hf : f < N + 1 := hf0
      clear hf0
      have pn := hp.1
      have pm := hp'.1
      have e1 := i_inc (a := i) i1 (by omega)
      replace h := ei_p h rfl rfl rfl rfl
      obtain ⟨f, g, h⟩ := h
      replace hf := Nat.lt_of_lt_of_le g (Nat.le_of_lt_succ hf)
      clear g
      replace h : EV F f 86 z86 7 [some (rf 5 (a)), some (rf 5 (b)), some (.inl (key)), some (.inl (c)), some (.inl (i)), x5, x6] [.inl (i)] σ (w, σ') := h
      replace h := ei_p h rfl rfl rfl rfl
      obtain ⟨f, g, h⟩ := h
      replace hf := Nat.lt_trans g hf
      clear g
      replace h : EV F f 86 z86 10 [some (rf 5 (a)), some (rf 5 (b)), some (.inl (key)), some (.inl (c)), some (.inl (i)), x5, x6] [.inl (Int32.ofInt 960), .inl (i)] σ (w, σ') := h
      replace h := ei_c h rfl rfl rfl
      rcases h with ⟨hp1, f, g, h⟩ | ⟨hp1, f, g, h⟩
      · skip
        replace hp1 : (960 : Int) ≤ (i).toInt := ic_ge.mp hp1
        replace hf := Nat.lt_trans g hf
        clear g
        exfalso
        have := hp1; omega
      · skip
        replace hp1 : ¬ ((960 : Int) ≤ (i).toInt) := (not_congr ic_ge).mp hp1
        replace hf := Nat.lt_trans g hf
        clear g
        replace h : EV F f 86 z86 13 [some (rf 5 (a)), some (rf 5 (b)), some (.inl (key)), some (.inl (c)), some (.inl (i)), x5, x6] [] σ (w, σ') := h
        replace h := ei_p h rfl rfl rfl rfl
        obtain ⟨f, g, h⟩ := h
        replace hf := Nat.lt_trans g hf
        clear g
        replace h : EV F f 86 z86 14 [some (rf 5 (a)), some (rf 5 (b)), some (.inl (key)), some (.inl (c)), some (.inl (i)), x5, x6] [rf 5 (a)] σ (w, σ') := h
        replace h := ei_p h rfl rfl rfl rfl
        obtain ⟨f, g, h⟩ := h
        replace hf := Nat.lt_trans g hf
        clear g
        replace h : EV F f 86 z86 15 [some (rf 5 (a)), some (rf 5 (b)), some (.inl (key)), some (.inl (c)), some (.inl (i)), x5, x6] [.inl (c), rf 5 (a)] σ (w, σ') := h
        replace h := bk_I (ei_v (as := [.inl (c)]) h rfl rfl rfl) rfl z79_at (Or.inl rfl)
        obtain ⟨v2, τ3, r4, f, g, h⟩ := h
        replace hf := Nat.lt_trans g hf
        clear g
        obtain ⟨pr4, e1r4, er4, Xa⟩ := s79 hv hS ⟨c1, c2⟩ r4
        cases e1r4
        rw [er4] at h
        replace h : EV F f 86 z86 18 [some (rf 5 (a)), some (rf 5 (b)), some (.inl (key)), some (.inl (c)), some (.inl (i)), x5, x6] [.inl (v2)] σ (w, σ') := h
        replace h := ei_p h rfl rfl rfl rfl
        obtain ⟨f, g, h⟩ := h
        replace hf := Nat.lt_trans g hf
        clear g
        replace h : EV F f 86 z86 20 [some (rf 5 (a)), some (rf 5 (b)), some (.inl (key)), some (.inl (c)), some (.inl (i)), some (.inl (v2)), x6] [] σ (w, σ') := h
        replace h := ei_p h rfl rfl rfl rfl
        obtain ⟨f, g, h⟩ := h
        replace hf := Nat.lt_trans g hf
        clear g
        replace h : EV F f 86 z86 21 [some (rf 5 (a)), some (rf 5 (b)), some (.inl (key)), some (.inl (c)), some (.inl (i)), some (.inl (v2)), x6] [rf 5 (b)] σ (w, σ') := h
        replace h := ei_p h rfl rfl rfl rfl
        obtain ⟨f, g, h⟩ := h
        replace hf := Nat.lt_trans g hf
        clear g
        replace h : EV F f 86 z86 22 [some (rf 5 (a)), some (rf 5 (b)), some (.inl (key)), some (.inl (c)), some (.inl (i)), some (.inl (v2)), x6] [.inl (c), rf 5 (b)] σ (w, σ') := h
        replace h := bk_I (ei_v (as := [.inl (c)]) h rfl rfl rfl) rfl z79_at (Or.inl rfl)
        obtain ⟨v5, τ6, r7, f, g, h⟩ := h
        replace hf := Nat.lt_trans g hf
        clear g
        obtain ⟨pr7, e1r7, er7, Xb⟩ := s79 hw hS' ⟨c1, c2⟩ r7
        cases e1r7
        rw [er7] at h
        replace h : EV F f 86 z86 25 [some (rf 5 (a)), some (rf 5 (b)), some (.inl (key)), some (.inl (c)), some (.inl (i)), some (.inl (v2)), x6] [.inl (v5)] σ (w, σ') := h
        replace h := ei_p h rfl rfl rfl rfl
        obtain ⟨f, g, h⟩ := h
        replace hf := Nat.lt_trans g hf
        clear g
        replace h : EV F f 86 z86 27 [some (rf 5 (a)), some (rf 5 (b)), some (.inl (key)), some (.inl (c)), some (.inl (i)), some (.inl (v2)), some (.inl (v5))] [] σ (w, σ') := h
        replace h := ei_p h rfl rfl rfl rfl
        obtain ⟨f, g, h⟩ := h
        replace hf := Nat.lt_trans g hf
        clear g
        replace h : EV F f 86 z86 29 [some (rf 5 (a)), some (rf 5 (b)), some (.inl (key)), some (.inl (c)), some (.inl (i)), some (.inl (v2)), some (.inl (v5))] [.inl (v2)] σ (w, σ') := h
        replace h := ei_p h rfl rfl rfl rfl
        obtain ⟨f, g, h⟩ := h
        replace hf := Nat.lt_trans g hf
        clear g
        replace h : EV F f 86 z86 30 [some (rf 5 (a)), some (rf 5 (b)), some (.inl (key)), some (.inl (c)), some (.inl (i)), some (.inl (v2)), some (.inl (v5))] [.inl (Int32.ofInt (-1)), .inl (v2)] σ (w, σ') := h
        replace h := ei_c h rfl rfl rfl
        rcases h with ⟨hp8, f, g, h⟩ | ⟨hp8, f, g, h⟩
        · skip
          replace hp8 : (v2).toInt = (-1 : Int) := ic_eq.mp hp8
          replace hf := Nat.lt_trans g hf
          clear g
          replace h : EV F f 86 z86 39 [some (rf 5 (a)), some (rf 5 (b)), some (.inl (key)), some (.inl (c)), some (.inl (i)), some (.inl (v2)), some (.inl (v5))] [] σ (w, σ') := h
          replace h := ei_p h rfl rfl rfl rfl
          obtain ⟨f, g, h⟩ := h
          replace hf := Nat.lt_trans g hf
          clear g
          replace h : EV F f 86 z86 41 [some (rf 5 (a)), some (rf 5 (b)), some (.inl (key)), some (.inl (c)), some (.inl (i)), some (.inl (v2)), some (.inl (v5))] [.inl (v2)] σ (w, σ') := h
          replace h := ei_p h rfl rfl rfl rfl
          obtain ⟨f, g, h⟩ := h
          replace hf := Nat.lt_trans g hf
          clear g
          replace h : EV F f 86 z86 43 [some (rf 5 (a)), some (rf 5 (b)), some (.inl (key)), some (.inl (c)), some (.inl (i)), some (.inl (v2)), some (.inl (v5))] [.inl (v5), .inl (v2)] σ (w, σ') := h
          replace h := ei_m (st' := [.inl (if (v2) < (v5) then (v5) else (v2))]) h rfl (Nat.le_of_ble_eq_true rfl) (fun w hw => (Option.some.inj (ev_if_some.mp hw).2).symm)
          obtain ⟨f, g, h⟩ := h
          replace hf := Nat.lt_trans g hf
          clear g
          replace h : EV F f 86 z86 46 [some (rf 5 (a)), some (rf 5 (b)), some (.inl (key)), some (.inl (c)), some (.inl (i)), some (.inl (v2)), some (.inl (v5))] [.inl (if (v2) < (v5) then (v5) else (v2))] σ (w, σ') := h
          generalize hmm9 : (if (v2) < (v5) then (v5) else (v2)) = mm9 at h
          replace hmm9 := i_max hmm9
          replace h : EV F f 86 z86 46 [some (rf 5 (a)), some (rf 5 (b)), some (.inl (key)), some (.inl (c)), some (.inl (i)), some (.inl (v2)), some (.inl (v5))] [.inl (mm9)] σ (w, σ') := h
          replace h := ei_p h rfl rfl rfl rfl
          obtain ⟨f, g, h⟩ := h
          replace hf := Nat.lt_trans g hf
          clear g
          replace h : EV F f 86 z86 56 [some (rf 5 (a)), some (rf 5 (b)), some (.inl (key)), some (.inl (c)), some (.inl (i)), some (.inl (v2)), some (.inl (v5))] [.inl (mm9)] σ (w, σ') := h
          replace h := ei_p h rfl rfl rfl rfl
          obtain ⟨f, g, h⟩ := h
          replace hf := Nat.lt_trans g hf
          clear g
          replace h : EV F f 86 z86 57 [some (rf 5 (a)), some (rf 5 (b)), some (.inl (key)), some (.inl (mm9)), some (.inl (i)), some (.inl (v2)), some (.inl (v5))] [] σ (w, σ') := h
          replace h := ei_p h rfl rfl rfl rfl
          obtain ⟨f, g, h⟩ := h
          replace hf := Nat.lt_trans g hf
          clear g
          replace h : EV F f 86 z86 58 [some (rf 5 (a)), some (rf 5 (b)), some (.inl (key)), some (.inl (mm9)), some (.inl (i)), some (.inl (v2)), some (.inl (v5))] [.inl (mm9)] σ (w, σ') := h
          replace h := ei_p h rfl rfl rfl rfl
          obtain ⟨f, g, h⟩ := h
          replace hf := Nat.lt_trans g hf
          clear g
          replace h : EV F f 86 z86 59 [some (rf 5 (a)), some (rf 5 (b)), some (.inl (key)), some (.inl (mm9)), some (.inl (i)), some (.inl (v2)), some (.inl (v5))] [.inl (Int32.ofInt (-1)), .inl (mm9)] σ (w, σ') := h
          replace h := ei_c h rfl rfl rfl
          rcases h with ⟨hp10, f, g, h⟩ | ⟨hp10, f, g, h⟩
          · skip
            replace hp10 : (mm9).toInt = (-1 : Int) := ic_eq.mp hp10
            replace hf := Nat.lt_trans g hf
            clear g
            replace h : EV F f 86 z86 84 [some (rf 5 (a)), some (rf 5 (b)), some (.inl (key)), some (.inl (mm9)), some (.inl (i)), some (.inl (v2)), some (.inl (v5))] [] σ (w, σ') := h
            replace h := ei_p h rfl rfl rfl rfl
            obtain ⟨f, g, h⟩ := h
            replace hf := Nat.lt_trans g hf
            clear g
            replace h : EV F f 86 z86 85 [some (rf 5 (a)), some (rf 5 (b)), some (.inl (key)), some (.inl (mm9)), some (.inl (i)), some (.inl (v2)), some (.inl (v5))] [.inl (mm9)] σ (w, σ') := h
            have e := ei_iret h rfl
            cases e
            rcases nS hS hS' hp hp' Xa Xb hA hB c1 E (Or.inl ⟨Or.inl hp8, hmm9⟩) with ⟨u1, u2⟩ | ⟨u1, u2, u3, u4, u5, u6⟩
            · exact ⟨_, rfl, rfl, Or.inl ⟨u1, u2⟩⟩
            · exact absurd hp10 u1
          · skip
            replace hp10 : ¬ ((mm9).toInt = (-1 : Int)) := (not_congr ic_eq).mp hp10
            replace hf := Nat.lt_trans g hf
            clear g
            replace h : EV F f 86 z86 62 [some (rf 5 (a)), some (rf 5 (b)), some (.inl (key)), some (.inl (mm9)), some (.inl (i)), some (.inl (v2)), some (.inl (v5))] [] σ (w, σ') := h
            replace h := ei_p h rfl rfl rfl rfl
            obtain ⟨f, g, h⟩ := h
            replace hf := Nat.lt_trans g hf
            clear g
            replace h : EV F f 86 z86 63 [some (rf 5 (a)), some (rf 5 (b)), some (.inl (key)), some (.inl (mm9)), some (.inl (i)), some (.inl (v2)), some (.inl (v5))] [rf 5 (a)] σ (w, σ') := h
            replace h := ei_p h rfl rfl rfl rfl
            obtain ⟨f, g, h⟩ := h
            replace hf := Nat.lt_trans g hf
            clear g
            replace h : EV F f 86 z86 64 [some (rf 5 (a)), some (rf 5 (b)), some (.inl (key)), some (.inl (mm9)), some (.inl (i)), some (.inl (v2)), some (.inl (v5))] [.inl (mm9), rf 5 (a)] σ (w, σ') := h
            replace h := bk_I (ei_v (as := [.inl (mm9)]) h rfl rfl rfl) rfl z78_at (Or.inl rfl)
            obtain ⟨v11, τ12, r13, f, g, h⟩ := h
            replace hf := Nat.lt_trans g hf
            clear g
            obtain ⟨pr13, e1r13, er13, Ma⟩ := s78 hv hS r13
            cases e1r13
            rw [er13] at h
            replace h : EV F f 86 z86 67 [some (rf 5 (a)), some (rf 5 (b)), some (.inl (key)), some (.inl (mm9)), some (.inl (i)), some (.inl (v2)), some (.inl (v5))] [.inl (v11)] σ (w, σ') := h
            replace h := ei_p h rfl rfl rfl rfl
            obtain ⟨f, g, h⟩ := h
            replace hf := Nat.lt_trans g hf
            clear g
            replace h : EV F f 86 z86 68 [some (rf 5 (a)), some (rf 5 (b)), some (.inl (key)), some (.inl (mm9)), some (.inl (i)), some (.inl (v2)), some (.inl (v5))] [rf 5 (b), .inl (v11)] σ (w, σ') := h
            replace h := ei_p h rfl rfl rfl rfl
            obtain ⟨f, g, h⟩ := h
            replace hf := Nat.lt_trans g hf
            clear g
            replace h : EV F f 86 z86 69 [some (rf 5 (a)), some (rf 5 (b)), some (.inl (key)), some (.inl (mm9)), some (.inl (i)), some (.inl (v2)), some (.inl (v5))] [.inl (mm9), rf 5 (b), .inl (v11)] σ (w, σ') := h
            replace h := bk_I (ei_v (as := [.inl (mm9)]) h rfl rfl rfl) rfl z78_at (Or.inl rfl)
            obtain ⟨v14, τ15, r16, f, g, h⟩ := h
            replace hf := Nat.lt_trans g hf
            clear g
            obtain ⟨pr16, e1r16, er16, Mb⟩ := s78 hw hS' r16
            cases e1r16
            rw [er16] at h
            replace h : EV F f 86 z86 72 [some (rf 5 (a)), some (rf 5 (b)), some (.inl (key)), some (.inl (mm9)), some (.inl (i)), some (.inl (v2)), some (.inl (v5))] [.inl (v14), .inl (v11)] σ (w, σ') := h
            replace h := ei_c h rfl rfl rfl
            rcases h with ⟨hp17, f, g, h⟩ | ⟨hp17, f, g, h⟩
            · skip
              replace hp17 : (v11).toInt = (v14).toInt := ic_eq.mp hp17
              replace hf := Nat.lt_trans g hf
              clear g
              replace h : EV F f 86 z86 78 [some (rf 5 (a)), some (rf 5 (b)), some (.inl (key)), some (.inl (mm9)), some (.inl (i)), some (.inl (v2)), some (.inl (v5))] [] σ (w, σ') := h
              replace h := ei_p h rfl rfl rfl rfl
              obtain ⟨f, g, h⟩ := h
              replace hf := Nat.lt_trans g hf
              clear g
              replace h : EV F f 86 z86 81 [some (rf 5 (a)), some (rf 5 (b)), some (.inl (key)), some (.inl (mm9)), some (.inl ((i) + Int32.ofInt 1)), some (.inl (v2)), some (.inl (v5))] [] σ (w, σ') := h
              replace h := ei_p h rfl rfl rfl rfl
              obtain ⟨f, g, h⟩ := h
              replace hf := Nat.lt_trans g hf
              clear g
              replace h : EV F f 86 z86 5 [some (rf 5 (a)), some (rf 5 (b)), some (.inl (key)), some (.inl (mm9)), some (.inl ((i) + Int32.ofInt 1)), some (.inl (v2)), some (.inl (v5))] [] σ (w, σ') := h
              rcases nS hS hS' hp hp' Xa Xb hA hB c1 E (Or.inl ⟨Or.inl hp8, hmm9⟩) with ⟨u1, u2⟩ | ⟨u1, u2, u3, u4, u5, q, q', u6, u7, u8⟩
              · exact absurd u1 hp10
              · have E2 : ∀ k, key.toInt < k → k ≤ (mm9).toInt → nE n (lK σ ka) (lQ σ qa) m (lK σ kb) (lQ σ qb) k := by
                  intro k k1 k2
                  by_cases y : k < (mm9).toInt
                  · exact u5 k k1 y
                  · have ek : k = (mm9).toInt := by omega
                    subst ek
                    intro v w g1 g2
                    have y1 := lM_uni hS g1 Ma
                    have y2 := lM_uni hS' g2 Mb
                    have y3 := hp17
                    omega
                exact IH f hf _ _ _ _ q q' (by omega) u4 (by omega) (by rw [e1]; omega) (by rw [e1]; omega) u6 u7 E2 h
            · skip
              replace hp17 : ¬ ((v11).toInt = (v14).toInt) := (not_congr ic_eq).mp hp17
              replace hf := Nat.lt_trans g hf
              clear g
              replace h : EV F f 86 z86 75 [some (rf 5 (a)), some (rf 5 (b)), some (.inl (key)), some (.inl (mm9)), some (.inl (i)), some (.inl (v2)), some (.inl (v5))] [] σ (w, σ') := h
              replace h := ei_p h rfl rfl rfl rfl
              obtain ⟨f, g, h⟩ := h
              replace hf := Nat.lt_trans g hf
              clear g
              replace h : EV F f 86 z86 84 [some (rf 5 (a)), some (rf 5 (b)), some (.inl (key)), some (.inl (mm9)), some (.inl (i)), some (.inl (v2)), some (.inl (v5))] [] σ (w, σ') := h
              replace h := ei_p h rfl rfl rfl rfl
              obtain ⟨f, g, h⟩ := h
              replace hf := Nat.lt_trans g hf
              clear g
              replace h : EV F f 86 z86 85 [some (rf 5 (a)), some (rf 5 (b)), some (.inl (key)), some (.inl (mm9)), some (.inl (i)), some (.inl (v2)), some (.inl (v5))] [.inl (mm9)] σ (w, σ') := h
              have e := ei_iret h rfl
              cases e
              rcases nS hS hS' hp hp' Xa Xb hA hB c1 E (Or.inl ⟨Or.inl hp8, hmm9⟩) with ⟨u1, u2⟩ | ⟨u1, u2, u3, u4, u5, u6⟩
              · exact absurd u1 hp10
              · exact ⟨_, rfl, rfl, Or.inr ⟨by omega, u3, u4, fun z => hp17 (z _ _ Ma Mb), u5⟩⟩
        · skip
          replace hp8 : ¬ ((v2).toInt = (-1 : Int)) := (not_congr ic_eq).mp hp8
          replace hf := Nat.lt_trans g hf
          clear g
          replace h : EV F f 86 z86 33 [some (rf 5 (a)), some (rf 5 (b)), some (.inl (key)), some (.inl (c)), some (.inl (i)), some (.inl (v2)), some (.inl (v5))] [] σ (w, σ') := h
          replace h := ei_p h rfl rfl rfl rfl
          obtain ⟨f, g, h⟩ := h
          replace hf := Nat.lt_trans g hf
          clear g
          replace h : EV F f 86 z86 35 [some (rf 5 (a)), some (rf 5 (b)), some (.inl (key)), some (.inl (c)), some (.inl (i)), some (.inl (v2)), some (.inl (v5))] [.inl (v5)] σ (w, σ') := h
          replace h := ei_p h rfl rfl rfl rfl
          obtain ⟨f, g, h⟩ := h
          replace hf := Nat.lt_trans g hf
          clear g
          replace h : EV F f 86 z86 36 [some (rf 5 (a)), some (rf 5 (b)), some (.inl (key)), some (.inl (c)), some (.inl (i)), some (.inl (v2)), some (.inl (v5))] [.inl (Int32.ofInt (-1)), .inl (v5)] σ (w, σ') := h
          replace h := ei_c h rfl rfl rfl
          rcases h with ⟨hp18, f, g, h⟩ | ⟨hp18, f, g, h⟩
          · skip
            replace hp18 : (v5).toInt ≠ (-1 : Int) := ic_ne.mp hp18
            replace hf := Nat.lt_trans g hf
            clear g
            replace h : EV F f 86 z86 49 [some (rf 5 (a)), some (rf 5 (b)), some (.inl (key)), some (.inl (c)), some (.inl (i)), some (.inl (v2)), some (.inl (v5))] [] σ (w, σ') := h
            replace h := ei_p h rfl rfl rfl rfl
            obtain ⟨f, g, h⟩ := h
            replace hf := Nat.lt_trans g hf
            clear g
            replace h : EV F f 86 z86 51 [some (rf 5 (a)), some (rf 5 (b)), some (.inl (key)), some (.inl (c)), some (.inl (i)), some (.inl (v2)), some (.inl (v5))] [.inl (v2)] σ (w, σ') := h
            replace h := ei_p h rfl rfl rfl rfl
            obtain ⟨f, g, h⟩ := h
            replace hf := Nat.lt_trans g hf
            clear g
            replace h : EV F f 86 z86 53 [some (rf 5 (a)), some (rf 5 (b)), some (.inl (key)), some (.inl (c)), some (.inl (i)), some (.inl (v2)), some (.inl (v5))] [.inl (v5), .inl (v2)] σ (w, σ') := h
            replace h := ei_m (st' := [.inl (if (v5) < (v2) then (v5) else (v2))]) h rfl (Nat.le_of_ble_eq_true rfl) (fun w hw => (Option.some.inj (ev_if_some.mp hw).2).symm)
            obtain ⟨f, g, h⟩ := h
            replace hf := Nat.lt_trans g hf
            clear g
            replace h : EV F f 86 z86 56 [some (rf 5 (a)), some (rf 5 (b)), some (.inl (key)), some (.inl (c)), some (.inl (i)), some (.inl (v2)), some (.inl (v5))] [.inl (if (v5) < (v2) then (v5) else (v2))] σ (w, σ') := h
            generalize hmm19 : (if (v5) < (v2) then (v5) else (v2)) = mm19 at h
            replace hmm19 := i_min hmm19
            replace h : EV F f 86 z86 56 [some (rf 5 (a)), some (rf 5 (b)), some (.inl (key)), some (.inl (c)), some (.inl (i)), some (.inl (v2)), some (.inl (v5))] [.inl (mm19)] σ (w, σ') := h
            replace h := ei_p h rfl rfl rfl rfl
            obtain ⟨f, g, h⟩ := h
            replace hf := Nat.lt_trans g hf
            clear g
            replace h : EV F f 86 z86 57 [some (rf 5 (a)), some (rf 5 (b)), some (.inl (key)), some (.inl (mm19)), some (.inl (i)), some (.inl (v2)), some (.inl (v5))] [] σ (w, σ') := h
            replace h := ei_p h rfl rfl rfl rfl
            obtain ⟨f, g, h⟩ := h
            replace hf := Nat.lt_trans g hf
            clear g
            replace h : EV F f 86 z86 58 [some (rf 5 (a)), some (rf 5 (b)), some (.inl (key)), some (.inl (mm19)), some (.inl (i)), some (.inl (v2)), some (.inl (v5))] [.inl (mm19)] σ (w, σ') := h
            replace h := ei_p h rfl rfl rfl rfl
            obtain ⟨f, g, h⟩ := h
            replace hf := Nat.lt_trans g hf
            clear g
            replace h : EV F f 86 z86 59 [some (rf 5 (a)), some (rf 5 (b)), some (.inl (key)), some (.inl (mm19)), some (.inl (i)), some (.inl (v2)), some (.inl (v5))] [.inl (Int32.ofInt (-1)), .inl (mm19)] σ (w, σ') := h
            replace h := ei_c h rfl rfl rfl
            rcases h with ⟨hp20, f, g, h⟩ | ⟨hp20, f, g, h⟩
            · skip
              replace hp20 : (mm19).toInt = (-1 : Int) := ic_eq.mp hp20
              replace hf := Nat.lt_trans g hf
              clear g
              replace h : EV F f 86 z86 84 [some (rf 5 (a)), some (rf 5 (b)), some (.inl (key)), some (.inl (mm19)), some (.inl (i)), some (.inl (v2)), some (.inl (v5))] [] σ (w, σ') := h
              replace h := ei_p h rfl rfl rfl rfl
              obtain ⟨f, g, h⟩ := h
              replace hf := Nat.lt_trans g hf
              clear g
              replace h : EV F f 86 z86 85 [some (rf 5 (a)), some (rf 5 (b)), some (.inl (key)), some (.inl (mm19)), some (.inl (i)), some (.inl (v2)), some (.inl (v5))] [.inl (mm19)] σ (w, σ') := h
              have e := ei_iret h rfl
              cases e
              rcases nS hS hS' hp hp' Xa Xb hA hB c1 E (Or.inr ⟨hp8, hp18, hmm19⟩) with ⟨u1, u2⟩ | ⟨u1, u2, u3, u4, u5, u6⟩
              · exact ⟨_, rfl, rfl, Or.inl ⟨u1, u2⟩⟩
              · exact absurd hp20 u1
            · skip
              replace hp20 : ¬ ((mm19).toInt = (-1 : Int)) := (not_congr ic_eq).mp hp20
              replace hf := Nat.lt_trans g hf
              clear g
              replace h : EV F f 86 z86 62 [some (rf 5 (a)), some (rf 5 (b)), some (.inl (key)), some (.inl (mm19)), some (.inl (i)), some (.inl (v2)), some (.inl (v5))] [] σ (w, σ') := h
              replace h := ei_p h rfl rfl rfl rfl
              obtain ⟨f, g, h⟩ := h
              replace hf := Nat.lt_trans g hf
              clear g
              replace h : EV F f 86 z86 63 [some (rf 5 (a)), some (rf 5 (b)), some (.inl (key)), some (.inl (mm19)), some (.inl (i)), some (.inl (v2)), some (.inl (v5))] [rf 5 (a)] σ (w, σ') := h
              replace h := ei_p h rfl rfl rfl rfl
              obtain ⟨f, g, h⟩ := h
              replace hf := Nat.lt_trans g hf
              clear g
              replace h : EV F f 86 z86 64 [some (rf 5 (a)), some (rf 5 (b)), some (.inl (key)), some (.inl (mm19)), some (.inl (i)), some (.inl (v2)), some (.inl (v5))] [.inl (mm19), rf 5 (a)] σ (w, σ') := h
              replace h := bk_I (ei_v (as := [.inl (mm19)]) h rfl rfl rfl) rfl z78_at (Or.inl rfl)
              obtain ⟨v21, τ22, r23, f, g, h⟩ := h
              replace hf := Nat.lt_trans g hf
              clear g
              obtain ⟨pr23, e1r23, er23, Ma⟩ := s78 hv hS r23
              cases e1r23
              rw [er23] at h
              replace h : EV F f 86 z86 67 [some (rf 5 (a)), some (rf 5 (b)), some (.inl (key)), some (.inl (mm19)), some (.inl (i)), some (.inl (v2)), some (.inl (v5))] [.inl (v21)] σ (w, σ') := h
              replace h := ei_p h rfl rfl rfl rfl
              obtain ⟨f, g, h⟩ := h
              replace hf := Nat.lt_trans g hf
              clear g
              replace h : EV F f 86 z86 68 [some (rf 5 (a)), some (rf 5 (b)), some (.inl (key)), some (.inl (mm19)), some (.inl (i)), some (.inl (v2)), some (.inl (v5))] [rf 5 (b), .inl (v21)] σ (w, σ') := h
              replace h := ei_p h rfl rfl rfl rfl
              obtain ⟨f, g, h⟩ := h
              replace hf := Nat.lt_trans g hf
              clear g
              replace h : EV F f 86 z86 69 [some (rf 5 (a)), some (rf 5 (b)), some (.inl (key)), some (.inl (mm19)), some (.inl (i)), some (.inl (v2)), some (.inl (v5))] [.inl (mm19), rf 5 (b), .inl (v21)] σ (w, σ') := h
              replace h := bk_I (ei_v (as := [.inl (mm19)]) h rfl rfl rfl) rfl z78_at (Or.inl rfl)
              obtain ⟨v24, τ25, r26, f, g, h⟩ := h
              replace hf := Nat.lt_trans g hf
              clear g
              obtain ⟨pr26, e1r26, er26, Mb⟩ := s78 hw hS' r26
              cases e1r26
              rw [er26] at h
              replace h : EV F f 86 z86 72 [some (rf 5 (a)), some (rf 5 (b)), some (.inl (key)), some (.inl (mm19)), some (.inl (i)), some (.inl (v2)), some (.inl (v5))] [.inl (v24), .inl (v21)] σ (w, σ') := h
              replace h := ei_c h rfl rfl rfl
              rcases h with ⟨hp27, f, g, h⟩ | ⟨hp27, f, g, h⟩
              · skip
                replace hp27 : (v21).toInt = (v24).toInt := ic_eq.mp hp27
                replace hf := Nat.lt_trans g hf
                clear g
                replace h : EV F f 86 z86 78 [some (rf 5 (a)), some (rf 5 (b)), some (.inl (key)), some (.inl (mm19)), some (.inl (i)), some (.inl (v2)), some (.inl (v5))] [] σ (w, σ') := h
                replace h := ei_p h rfl rfl rfl rfl
                obtain ⟨f, g, h⟩ := h
                replace hf := Nat.lt_trans g hf
                clear g
                replace h : EV F f 86 z86 81 [some (rf 5 (a)), some (rf 5 (b)), some (.inl (key)), some (.inl (mm19)), some (.inl ((i) + Int32.ofInt 1)), some (.inl (v2)), some (.inl (v5))] [] σ (w, σ') := h
                replace h := ei_p h rfl rfl rfl rfl
                obtain ⟨f, g, h⟩ := h
                replace hf := Nat.lt_trans g hf
                clear g
                replace h : EV F f 86 z86 5 [some (rf 5 (a)), some (rf 5 (b)), some (.inl (key)), some (.inl (mm19)), some (.inl ((i) + Int32.ofInt 1)), some (.inl (v2)), some (.inl (v5))] [] σ (w, σ') := h
                rcases nS hS hS' hp hp' Xa Xb hA hB c1 E (Or.inr ⟨hp8, hp18, hmm19⟩) with ⟨u1, u2⟩ | ⟨u1, u2, u3, u4, u5, q, q', u6, u7, u8⟩
                · exact absurd u1 hp20
                · have E2 : ∀ k, key.toInt < k → k ≤ (mm19).toInt → nE n (lK σ ka) (lQ σ qa) m (lK σ kb) (lQ σ qb) k := by
                    intro k k1 k2
                    by_cases y : k < (mm19).toInt
                    · exact u5 k k1 y
                    · have ek : k = (mm19).toInt := by omega
                      subst ek
                      intro v w g1 g2
                      have y1 := lM_uni hS g1 Ma
                      have y2 := lM_uni hS' g2 Mb
                      have y3 := hp27
                      omega
                  exact IH f hf _ _ _ _ q q' (by omega) u4 (by omega) (by rw [e1]; omega) (by rw [e1]; omega) u6 u7 E2 h
              · skip
                replace hp27 : ¬ ((v21).toInt = (v24).toInt) := (not_congr ic_eq).mp hp27
                replace hf := Nat.lt_trans g hf
                clear g
                replace h : EV F f 86 z86 75 [some (rf 5 (a)), some (rf 5 (b)), some (.inl (key)), some (.inl (mm19)), some (.inl (i)), some (.inl (v2)), some (.inl (v5))] [] σ (w, σ') := h
                replace h := ei_p h rfl rfl rfl rfl
                obtain ⟨f, g, h⟩ := h
                replace hf := Nat.lt_trans g hf
                clear g
                replace h : EV F f 86 z86 84 [some (rf 5 (a)), some (rf 5 (b)), some (.inl (key)), some (.inl (mm19)), some (.inl (i)), some (.inl (v2)), some (.inl (v5))] [] σ (w, σ') := h
                replace h := ei_p h rfl rfl rfl rfl
                obtain ⟨f, g, h⟩ := h
                replace hf := Nat.lt_trans g hf
                clear g
                replace h : EV F f 86 z86 85 [some (rf 5 (a)), some (rf 5 (b)), some (.inl (key)), some (.inl (mm19)), some (.inl (i)), some (.inl (v2)), some (.inl (v5))] [.inl (mm19)] σ (w, σ') := h
                have e := ei_iret h rfl
                cases e
                rcases nS hS hS' hp hp' Xa Xb hA hB c1 E (Or.inr ⟨hp8, hp18, hmm19⟩) with ⟨u1, u2⟩ | ⟨u1, u2, u3, u4, u5, u6⟩
                · exact absurd u1 hp20
                · exact ⟨_, rfl, rfl, Or.inr ⟨by omega, u3, u4, fun z => hp27 (z _ _ Ma Mb), u5⟩⟩
          · skip
            replace hp18 : ¬ ((v5).toInt ≠ (-1 : Int)) := (not_congr ic_ne).mp hp18
            replace hf := Nat.lt_trans g hf
            clear g
            replace h : EV F f 86 z86 39 [some (rf 5 (a)), some (rf 5 (b)), some (.inl (key)), some (.inl (c)), some (.inl (i)), some (.inl (v2)), some (.inl (v5))] [] σ (w, σ') := h
            replace h := ei_p h rfl rfl rfl rfl
            obtain ⟨f, g, h⟩ := h
            replace hf := Nat.lt_trans g hf
            clear g
            replace h : EV F f 86 z86 41 [some (rf 5 (a)), some (rf 5 (b)), some (.inl (key)), some (.inl (c)), some (.inl (i)), some (.inl (v2)), some (.inl (v5))] [.inl (v2)] σ (w, σ') := h
            replace h := ei_p h rfl rfl rfl rfl
            obtain ⟨f, g, h⟩ := h
            replace hf := Nat.lt_trans g hf
            clear g
            replace h : EV F f 86 z86 43 [some (rf 5 (a)), some (rf 5 (b)), some (.inl (key)), some (.inl (c)), some (.inl (i)), some (.inl (v2)), some (.inl (v5))] [.inl (v5), .inl (v2)] σ (w, σ') := h
            replace h := ei_m (st' := [.inl (if (v2) < (v5) then (v5) else (v2))]) h rfl (Nat.le_of_ble_eq_true rfl) (fun w hw => (Option.some.inj (ev_if_some.mp hw).2).symm)
            obtain ⟨f, g, h⟩ := h
            replace hf := Nat.lt_trans g hf
            clear g
            replace h : EV F f 86 z86 46 [some (rf 5 (a)), some (rf 5 (b)), some (.inl (key)), some (.inl (c)), some (.inl (i)), some (.inl (v2)), some (.inl (v5))] [.inl (if (v2) < (v5) then (v5) else (v2))] σ (w, σ') := h
            generalize hmm28 : (if (v2) < (v5) then (v5) else (v2)) = mm28 at h
            replace hmm28 := i_max hmm28
            replace h : EV F f 86 z86 46 [some (rf 5 (a)), some (rf 5 (b)), some (.inl (key)), some (.inl (c)), some (.inl (i)), some (.inl (v2)), some (.inl (v5))] [.inl (mm28)] σ (w, σ') := h
            replace h := ei_p h rfl rfl rfl rfl
            obtain ⟨f, g, h⟩ := h
            replace hf := Nat.lt_trans g hf
            clear g
            replace h : EV F f 86 z86 56 [some (rf 5 (a)), some (rf 5 (b)), some (.inl (key)), some (.inl (c)), some (.inl (i)), some (.inl (v2)), some (.inl (v5))] [.inl (mm28)] σ (w, σ') := h
            replace h := ei_p h rfl rfl rfl rfl
            obtain ⟨f, g, h⟩ := h
            replace hf := Nat.lt_trans g hf
            clear g
            replace h : EV F f 86 z86 57 [some (rf 5 (a)), some (rf 5 (b)), some (.inl (key)), some (.inl (mm28)), some (.inl (i)), some (.inl (v2)), some (.inl (v5))] [] σ (w, σ') := h
            replace h := ei_p h rfl rfl rfl rfl
            obtain ⟨f, g, h⟩ := h
            replace hf := Nat.lt_trans g hf
            clear g
            replace h : EV F f 86 z86 58 [some (rf 5 (a)), some (rf 5 (b)), some (.inl (key)), some (.inl (mm28)), some (.inl (i)), some (.inl (v2)), some (.inl (v5))] [.inl (mm28)] σ (w, σ') := h
            replace h := ei_p h rfl rfl rfl rfl
            obtain ⟨f, g, h⟩ := h
            replace hf := Nat.lt_trans g hf
            clear g
            replace h : EV F f 86 z86 59 [some (rf 5 (a)), some (rf 5 (b)), some (.inl (key)), some (.inl (mm28)), some (.inl (i)), some (.inl (v2)), some (.inl (v5))] [.inl (Int32.ofInt (-1)), .inl (mm28)] σ (w, σ') := h
            replace h := ei_c h rfl rfl rfl
            rcases h with ⟨hp29, f, g, h⟩ | ⟨hp29, f, g, h⟩
            · skip
              replace hp29 : (mm28).toInt = (-1 : Int) := ic_eq.mp hp29
              replace hf := Nat.lt_trans g hf
              clear g
              replace h : EV F f 86 z86 84 [some (rf 5 (a)), some (rf 5 (b)), some (.inl (key)), some (.inl (mm28)), some (.inl (i)), some (.inl (v2)), some (.inl (v5))] [] σ (w, σ') := h
              replace h := ei_p h rfl rfl rfl rfl
              obtain ⟨f, g, h⟩ := h
              replace hf := Nat.lt_trans g hf
              clear g
              replace h : EV F f 86 z86 85 [some (rf 5 (a)), some (rf 5 (b)), some (.inl (key)), some (.inl (mm28)), some (.inl (i)), some (.inl (v2)), some (.inl (v5))] [.inl (mm28)] σ (w, σ') := h
              have e := ei_iret h rfl
              cases e
              rcases nS hS hS' hp hp' Xa Xb hA hB c1 E (Or.inl ⟨Or.inr (Decidable.of_not_not hp18), hmm28⟩) with ⟨u1, u2⟩ | ⟨u1, u2, u3, u4, u5, u6⟩
              · exact ⟨_, rfl, rfl, Or.inl ⟨u1, u2⟩⟩
              · exact absurd hp29 u1
            · skip
              replace hp29 : ¬ ((mm28).toInt = (-1 : Int)) := (not_congr ic_eq).mp hp29
              replace hf := Nat.lt_trans g hf
              clear g
              replace h : EV F f 86 z86 62 [some (rf 5 (a)), some (rf 5 (b)), some (.inl (key)), some (.inl (mm28)), some (.inl (i)), some (.inl (v2)), some (.inl (v5))] [] σ (w, σ') := h
              replace h := ei_p h rfl rfl rfl rfl
              obtain ⟨f, g, h⟩ := h
              replace hf := Nat.lt_trans g hf
              clear g
              replace h : EV F f 86 z86 63 [some (rf 5 (a)), some (rf 5 (b)), some (.inl (key)), some (.inl (mm28)), some (.inl (i)), some (.inl (v2)), some (.inl (v5))] [rf 5 (a)] σ (w, σ') := h
              replace h := ei_p h rfl rfl rfl rfl
              obtain ⟨f, g, h⟩ := h
              replace hf := Nat.lt_trans g hf
              clear g
              replace h : EV F f 86 z86 64 [some (rf 5 (a)), some (rf 5 (b)), some (.inl (key)), some (.inl (mm28)), some (.inl (i)), some (.inl (v2)), some (.inl (v5))] [.inl (mm28), rf 5 (a)] σ (w, σ') := h
              replace h := bk_I (ei_v (as := [.inl (mm28)]) h rfl rfl rfl) rfl z78_at (Or.inl rfl)
              obtain ⟨v30, τ31, r32, f, g, h⟩ := h
              replace hf := Nat.lt_trans g hf
              clear g
              obtain ⟨pr32, e1r32, er32, Ma⟩ := s78 hv hS r32
              cases e1r32
              rw [er32] at h
              replace h : EV F f 86 z86 67 [some (rf 5 (a)), some (rf 5 (b)), some (.inl (key)), some (.inl (mm28)), some (.inl (i)), some (.inl (v2)), some (.inl (v5))] [.inl (v30)] σ (w, σ') := h
              replace h := ei_p h rfl rfl rfl rfl
              obtain ⟨f, g, h⟩ := h
              replace hf := Nat.lt_trans g hf
              clear g
              replace h : EV F f 86 z86 68 [some (rf 5 (a)), some (rf 5 (b)), some (.inl (key)), some (.inl (mm28)), some (.inl (i)), some (.inl (v2)), some (.inl (v5))] [rf 5 (b), .inl (v30)] σ (w, σ') := h
              replace h := ei_p h rfl rfl rfl rfl
              obtain ⟨f, g, h⟩ := h
              replace hf := Nat.lt_trans g hf
              clear g
              replace h : EV F f 86 z86 69 [some (rf 5 (a)), some (rf 5 (b)), some (.inl (key)), some (.inl (mm28)), some (.inl (i)), some (.inl (v2)), some (.inl (v5))] [.inl (mm28), rf 5 (b), .inl (v30)] σ (w, σ') := h
              replace h := bk_I (ei_v (as := [.inl (mm28)]) h rfl rfl rfl) rfl z78_at (Or.inl rfl)
              obtain ⟨v33, τ34, r35, f, g, h⟩ := h
              replace hf := Nat.lt_trans g hf
              clear g
              obtain ⟨pr35, e1r35, er35, Mb⟩ := s78 hw hS' r35
              cases e1r35
              rw [er35] at h
              replace h : EV F f 86 z86 72 [some (rf 5 (a)), some (rf 5 (b)), some (.inl (key)), some (.inl (mm28)), some (.inl (i)), some (.inl (v2)), some (.inl (v5))] [.inl (v33), .inl (v30)] σ (w, σ') := h
              replace h := ei_c h rfl rfl rfl
              rcases h with ⟨hp36, f, g, h⟩ | ⟨hp36, f, g, h⟩
              · skip
                replace hp36 : (v30).toInt = (v33).toInt := ic_eq.mp hp36
                replace hf := Nat.lt_trans g hf
                clear g
                replace h : EV F f 86 z86 78 [some (rf 5 (a)), some (rf 5 (b)), some (.inl (key)), some (.inl (mm28)), some (.inl (i)), some (.inl (v2)), some (.inl (v5))] [] σ (w, σ') := h
                replace h := ei_p h rfl rfl rfl rfl
                obtain ⟨f, g, h⟩ := h
                replace hf := Nat.lt_trans g hf
                clear g
                replace h : EV F f 86 z86 81 [some (rf 5 (a)), some (rf 5 (b)), some (.inl (key)), some (.inl (mm28)), some (.inl ((i) + Int32.ofInt 1)), some (.inl (v2)), some (.inl (v5))] [] σ (w, σ') := h
                replace h := ei_p h rfl rfl rfl rfl
                obtain ⟨f, g, h⟩ := h
                replace hf := Nat.lt_trans g hf
                clear g
                replace h : EV F f 86 z86 5 [some (rf 5 (a)), some (rf 5 (b)), some (.inl (key)), some (.inl (mm28)), some (.inl ((i) + Int32.ofInt 1)), some (.inl (v2)), some (.inl (v5))] [] σ (w, σ') := h
                rcases nS hS hS' hp hp' Xa Xb hA hB c1 E (Or.inl ⟨Or.inr (Decidable.of_not_not hp18), hmm28⟩) with ⟨u1, u2⟩ | ⟨u1, u2, u3, u4, u5, q, q', u6, u7, u8⟩
                · exact absurd u1 hp29
                · have E2 : ∀ k, key.toInt < k → k ≤ (mm28).toInt → nE n (lK σ ka) (lQ σ qa) m (lK σ kb) (lQ σ qb) k := by
                    intro k k1 k2
                    by_cases y : k < (mm28).toInt
                    · exact u5 k k1 y
                    · have ek : k = (mm28).toInt := by omega
                      subst ek
                      intro v w g1 g2
                      have y1 := lM_uni hS g1 Ma
                      have y2 := lM_uni hS' g2 Mb
                      have y3 := hp36
                      omega
                  exact IH f hf _ _ _ _ q q' (by omega) u4 (by omega) (by rw [e1]; omega) (by rw [e1]; omega) u6 u7 E2 h
              · skip
                replace hp36 : ¬ ((v30).toInt = (v33).toInt) := (not_congr ic_eq).mp hp36
                replace hf := Nat.lt_trans g hf
                clear g
                replace h : EV F f 86 z86 75 [some (rf 5 (a)), some (rf 5 (b)), some (.inl (key)), some (.inl (mm28)), some (.inl (i)), some (.inl (v2)), some (.inl (v5))] [] σ (w, σ') := h
                replace h := ei_p h rfl rfl rfl rfl
                obtain ⟨f, g, h⟩ := h
                replace hf := Nat.lt_trans g hf
                clear g
                replace h : EV F f 86 z86 84 [some (rf 5 (a)), some (rf 5 (b)), some (.inl (key)), some (.inl (mm28)), some (.inl (i)), some (.inl (v2)), some (.inl (v5))] [] σ (w, σ') := h
                replace h := ei_p h rfl rfl rfl rfl
                obtain ⟨f, g, h⟩ := h
                replace hf := Nat.lt_trans g hf
                clear g
                replace h : EV F f 86 z86 85 [some (rf 5 (a)), some (rf 5 (b)), some (.inl (key)), some (.inl (mm28)), some (.inl (i)), some (.inl (v2)), some (.inl (v5))] [.inl (mm28)] σ (w, σ') := h
                have e := ei_iret h rfl
                cases e
                rcases nS hS hS' hp hp' Xa Xb hA hB c1 E (Or.inl ⟨Or.inr (Decidable.of_not_not hp18), hmm28⟩) with ⟨u1, u2⟩ | ⟨u1, u2, u3, u4, u5, u6⟩
                · exact absurd u1 hp29
                · exact ⟨_, rfl, rfl, Or.inr ⟨by omega, u3, u4, fun z => hp36 (z _ _ Ma Mb), u5⟩⟩
  replace h : EV F f 86 z86 0 [some (rf 5 (a)), some (rf 5 (b)), some (.inl (key)), none, none, none, none] [] σ (w, σ') := h
  replace h := ei_p h rfl rfl rfl rfl
  obtain ⟨f, g, h⟩ := h
  clear g
  replace h : EV F f 86 z86 1 [some (rf 5 (a)), some (rf 5 (b)), some (.inl (key)), none, none, none, none] [.inl (key)] σ (w, σ') := h
  replace h := ei_p h rfl rfl rfl rfl
  obtain ⟨f, g, h⟩ := h
  clear g
  replace h : EV F f 86 z86 2 [some (rf 5 (a)), some (rf 5 (b)), some (.inl (key)), some (.inl (key)), none, none, none] [] σ (w, σ') := h
  replace h := ei_p h rfl rfl rfl rfl
  obtain ⟨f, g, h⟩ := h
  clear g
  replace h : EV F f 86 z86 3 [some (rf 5 (a)), some (rf 5 (b)), some (.inl (key)), some (.inl (key)), none, none, none] [.inl (Int32.ofInt 0)] σ (w, σ') := h
  replace h := ei_p h rfl rfl rfl rfl
  obtain ⟨f, g, h⟩ := h
  clear g
  replace h : EV F f 86 z86 5 [some (rf 5 (a)), some (rf 5 (b)), some (.inl (key)), some (.inl (key)), some (.inl (Int32.ofInt 0)), none, none] [] σ (w, σ') := h
  obtain ⟨p, hp⟩ := pl_ex (c := key.toInt) n hS
  obtain ⟨p', hp'⟩ := pl_ex (c := key.toInt) m hS'
  refine loop (f + 1) f (Nat.lt_succ_self f) key (Int32.ofInt 0) _ _ p p' hk.1 hk.2 (Int.le_refl _) (by decide) (by show (0 : Int) ≤ p + p'; omega) hp hp' (fun k k1 k2 => by omega) h
