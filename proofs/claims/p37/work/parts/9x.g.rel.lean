/-! the law's methods as relations: isPaid, isStop, isRead -/
def z183 : mAl := ((yL_isPaid, cL_isPaid, 10, (some .boolean), { frames := 9, cells := 133, slots := 882, locals := 247 }, []), rw_L_isPaid, false)
theorem z183_at : m_alF[183]? = some z183 := rfl
def J183_131 (t0 : Int64) (t1 : Int64) (τ : mS) (w : mX) (σ' : mS) : Prop := (((t1).toInt ≠ (t0).toInt ∧ w = .inl (some (.inl (Int32.ofInt 0))) ∧ σ' = τ) ∨ (¬ ((t1).toInt ≠ (t0).toInt) ∧ w = .inl (some (.inl (Int32.ofInt 1))) ∧ σ' = τ))
set_option maxRecDepth 100000 in
theorem j183_131 {F f : Nat} {σ' τ : mS} {t0 : Int64} {t1 : Int64} {y0 : Option mV} {y1 : Option mV} {y2 : Option mV} {y3 : Option mV} {y4 : Option mV} {y5 : Option mV} {y6 : Option mV} {y7 : Option mV} {y8 : Option mV} {y9 : Option mV} {w : mX} (hsτ : HL τ) (h : EV F f 183 z183 131 [y0, y1, y2, y3, y4, y5, y6, y7, y8, y9] [.inr (.inl (t0)), .inr (.inl (t1))] τ (w, σ')) : J183_131 t0 t1 τ w σ' := by
  unfold J183_131
  replace h := ei_p h rfl rfl rfl rfl
  obtain ⟨f, g, h⟩ := h
  clear g
  replace h : EV F f 183 z183 132 [y0, y1, y2, y3, y4, y5, y6, y7, y8, y9] [.inl (lg_cmp (t1) (t0))] τ (w, σ') := h
  replace h := ei_c h rfl rfl rfl
  rcases h with ⟨hp1, f, g, h⟩ | ⟨hp1, f, g, h⟩
  · skip
    replace hp1 : (t1).toInt ≠ (t0).toInt := (ab_lc .ne _ _).mp hp1
    refine Or.inl ⟨hp1, ?_⟩
    clear g
    replace h : EV F f 183 z183 139 [y0, y1, y2, y3, y4, y5, y6, y7, y8, y9] [] τ (w, σ') := h
    replace h := ei_p h rfl rfl rfl rfl
    obtain ⟨f, g, h⟩ := h
    clear g
    replace h : EV F f 183 z183 140 [y0, y1, y2, y3, y4, y5, y6, y7, y8, y9] [.inl (Int32.ofInt 0)] τ (w, σ') := h
    have e := ei_iret h rfl
    cases e
    exact ⟨rfl, rfl⟩
  · skip
    replace hp1 : ¬ ((t1).toInt ≠ (t0).toInt) := (not_congr (ab_lc .ne _ _)).mp hp1
    refine Or.inr ⟨hp1, ?_⟩
    clear g
    replace h : EV F f 183 z183 135 [y0, y1, y2, y3, y4, y5, y6, y7, y8, y9] [] τ (w, σ') := h
    replace h := ei_p h rfl rfl rfl rfl
    obtain ⟨f, g, h⟩ := h
    clear g
    replace h : EV F f 183 z183 136 [y0, y1, y2, y3, y4, y5, y6, y7, y8, y9] [.inl (Int32.ofInt 1)] τ (w, σ') := h
    replace h := ei_p h rfl rfl rfl rfl
    obtain ⟨f, g, h⟩ := h
    clear g
    replace h : EV F f 183 z183 140 [y0, y1, y2, y3, y4, y5, y6, y7, y8, y9] [.inl (Int32.ofInt 1)] τ (w, σ') := h
    have e := ei_iret h rfl
    cases e
    exact ⟨rfl, rfl⟩
def J183_104 (u6 : Int32) (u7 : Int64) (u9 : Int32) (τ : mS) (w : mX) (σ' : mS) : Prop := (((u9).toInt ≠ (0 : Int) ∧ (((u6).toInt ≠ (0 : Int) ∧ J183_131 (Int64.ofInt (-1000000000)) (u7) τ w σ') ∨ (¬ ((u6).toInt ≠ (0 : Int)) ∧ J183_131 (Int64.ofInt (-2000000000)) (u7) τ w σ'))) ∨ (¬ ((u9).toInt ≠ (0 : Int)) ∧ J183_131 (Int64.ofInt (-3000000000)) (u7) τ w σ'))
set_option maxRecDepth 100000 in
theorem j183_104 {F f : Nat} {σ' τ : mS} {u6 : Int32} {u7 : Int64} {u9 : Int32} {y0 : Option mV} {y1 : Option mV} {y2 : Option mV} {y3 : Option mV} {y4 : Option mV} {y5 : Option mV} {w : mX} (hsτ : HL τ) (h : EV F f 183 z183 104 [y0, y1, y2, y3, y4, y5, some (.inl (u6)), some (.inr (.inl (u7))), none, some (.inl (u9))] [] τ (w, σ')) : J183_104 u6 u7 u9 τ w σ' := by
  unfold J183_104
  replace h := ei_p h rfl rfl rfl rfl
  obtain ⟨f, g, h⟩ := h
  clear g
  replace h : EV F f 183 z183 106 [y0, y1, y2, y3, y4, y5, some (.inl (u6)), some (.inr (.inl (u7))), none, some (.inl (u9))] [.inr (.inl (u7))] τ (w, σ') := h
  replace h := ei_p h rfl rfl rfl rfl
  obtain ⟨f, g, h⟩ := h
  clear g
  replace h : EV F f 183 z183 108 [y0, y1, y2, y3, y4, y5, some (.inl (u6)), some (.inr (.inl (u7))), none, some (.inl (u9))] [.inl (u9), .inr (.inl (u7))] τ (w, σ') := h
  replace h := ei_c h rfl rfl rfl
  rcases h with ⟨hp1, f, g, h⟩ | ⟨hp1, f, g, h⟩
  · skip
    replace hp1 : (u9).toInt ≠ (0 : Int) := ic_ne.mp hp1
    refine Or.inl ⟨hp1, ?_⟩
    clear g
    replace h : EV F f 183 z183 117 [y0, y1, y2, y3, y4, y5, some (.inl (u6)), some (.inr (.inl (u7))), none, some (.inl (u9))] [.inr (.inl (u7))] τ (w, σ') := h
    replace h := ei_p h rfl rfl rfl rfl
    obtain ⟨f, g, h⟩ := h
    clear g
    replace h : EV F f 183 z183 119 [y0, y1, y2, y3, y4, y5, some (.inl (u6)), some (.inr (.inl (u7))), none, some (.inl (u9))] [.inl (u6), .inr (.inl (u7))] τ (w, σ') := h
    replace h := ei_c h rfl rfl rfl
    rcases h with ⟨hp2, f, g, h⟩ | ⟨hp2, f, g, h⟩
    · skip
      replace hp2 : (u6).toInt ≠ (0 : Int) := ic_ne.mp hp2
      refine Or.inl ⟨hp2, ?_⟩
      clear g
      replace h : EV F f 183 z183 128 [y0, y1, y2, y3, y4, y5, some (.inl (u6)), some (.inr (.inl (u7))), none, some (.inl (u9))] [.inr (.inl (u7))] τ (w, σ') := h
      replace h := ei_p h rfl rfl rfl rfl
      obtain ⟨f, g, h⟩ := h
      clear g
      replace h : EV F f 183 z183 131 [y0, y1, y2, y3, y4, y5, some (.inl (u6)), some (.inr (.inl (u7))), none, some (.inl (u9))] [.inr (.inl (Int64.ofInt (-1000000000))), .inr (.inl (u7))] τ (w, σ') := h
      exact j183_131 hsτ h
    · skip
      replace hp2 : ¬ ((u6).toInt ≠ (0 : Int)) := (not_congr ic_ne).mp hp2
      refine Or.inr ⟨hp2, ?_⟩
      clear g
      replace h : EV F f 183 z183 122 [y0, y1, y2, y3, y4, y5, some (.inl (u6)), some (.inr (.inl (u7))), none, some (.inl (u9))] [.inr (.inl (u7))] τ (w, σ') := h
      replace h := ei_p h rfl rfl rfl rfl
      obtain ⟨f, g, h⟩ := h
      clear g
      replace h : EV F f 183 z183 125 [y0, y1, y2, y3, y4, y5, some (.inl (u6)), some (.inr (.inl (u7))), none, some (.inl (u9))] [.inr (.inl (Int64.ofInt (-2000000000))), .inr (.inl (u7))] τ (w, σ') := h
      replace h := ei_p h rfl rfl rfl rfl
      obtain ⟨f, g, h⟩ := h
      clear g
      replace h : EV F f 183 z183 131 [y0, y1, y2, y3, y4, y5, some (.inl (u6)), some (.inr (.inl (u7))), none, some (.inl (u9))] [.inr (.inl (Int64.ofInt (-2000000000))), .inr (.inl (u7))] τ (w, σ') := h
      exact j183_131 hsτ h
  · skip
    replace hp1 : ¬ ((u9).toInt ≠ (0 : Int)) := (not_congr ic_ne).mp hp1
    refine Or.inr ⟨hp1, ?_⟩
    clear g
    replace h : EV F f 183 z183 111 [y0, y1, y2, y3, y4, y5, some (.inl (u6)), some (.inr (.inl (u7))), none, some (.inl (u9))] [.inr (.inl (u7))] τ (w, σ') := h
    replace h := ei_p h rfl rfl rfl rfl
    obtain ⟨f, g, h⟩ := h
    clear g
    replace h : EV F f 183 z183 114 [y0, y1, y2, y3, y4, y5, some (.inl (u6)), some (.inr (.inl (u7))), none, some (.inl (u9))] [.inr (.inl (Int64.ofInt (-3000000000))), .inr (.inl (u7))] τ (w, σ') := h
    replace h := ei_p h rfl rfl rfl rfl
    obtain ⟨f, g, h⟩ := h
    clear g
    replace h : EV F f 183 z183 131 [y0, y1, y2, y3, y4, y5, some (.inl (u6)), some (.inr (.inl (u7))), none, some (.inl (u9))] [.inr (.inl (Int64.ofInt (-3000000000))), .inr (.inl (u7))] τ (w, σ') := h
    exact j183_131 hsτ h
def J183_191 (τ : mS) (w : mX) (σ' : mS) : Prop := w = .inl (some (.inl (Int32.ofInt 0))) ∧ σ' = τ
set_option maxRecDepth 100000 in
theorem j183_191 {F f : Nat} {σ' τ : mS} {y0 : Option mV} {y1 : Option mV} {y2 : Option mV} {y3 : Option mV} {y4 : Option mV} {y5 : Option mV} {y6 : Option mV} {y7 : Option mV} {y8 : Option mV} {y9 : Option mV} {w : mX} (hsτ : HL τ) (h : EV F f 183 z183 191 [y0, y1, y2, y3, y4, y5, y6, y7, y8, y9] [] τ (w, σ')) : J183_191 τ w σ' := by
  unfold J183_191
  replace h := ei_p h rfl rfl rfl rfl
  obtain ⟨f, g, h⟩ := h
  clear g
  replace h : EV F f 183 z183 192 [y0, y1, y2, y3, y4, y5, y6, y7, y8, y9] [.inl (Int32.ofInt 0)] τ (w, σ') := h
  have e := ei_iret h rfl
  cases e
  exact ⟨rfl, rfl⟩
def J183_166 (u6 : Int32) (u7 : Int64) (t0 : Int32) (t1 : Int32) (t2 : Int32) (t4 : Int64) (τ : mS) (w : mX) (σ' : mS) : Prop := ∃ v1 σ2, gF τ σ2 ∧ HL σ2 ∧ P172 τ (t2) (t1) (t0) (Int32.ofInt 0) (Int32.ofInt 0) (Int32.ofInt 0) (Int32.ofInt 0) (Int32.ofInt 0) (.inl (some (.inr (.inl v1)))) σ2 ∧ (((t4).toInt ≠ (v1).toInt ∧ J183_191 σ2 w σ') ∨ (¬ ((t4).toInt ≠ (v1).toInt) ∧ (((u7).toInt < ((u6).toInt64).toInt ∧ J183_191 σ2 w σ') ∨ (¬ ((u7).toInt < ((u6).toInt64).toInt) ∧ w = .inl (some (.inl (Int32.ofInt 1))) ∧ σ' = σ2))))
set_option maxRecDepth 100000 in
theorem j183_166 {F f : Nat} {σ' τ : mS} {u6 : Int32} {u7 : Int64} {t0 : Int32} {t1 : Int32} {t2 : Int32} {t4 : Int64} {y0 : Option mV} {y1 : Option mV} {y2 : Option mV} {y3 : Option mV} {y4 : Option mV} {y5 : Option mV} {y9 : Option mV} {w : mX} (hsτ : HL τ) (h : EV F f 183 z183 166 [y0, y1, y2, y3, y4, y5, some (.inl (u6)), some (.inr (.inl (u7))), none, y9] [.inl (t0), .inl (t1), .inl (t2), rf 11 (0), .inr (.inl (t4))] τ (w, σ')) : J183_166 u6 u7 t0 t1 t2 t4 τ w σ' := by
  unfold J183_166
  replace h := ei_p h rfl rfl rfl rfl
  obtain ⟨f, g, h⟩ := h
  clear g
  replace h : EV F f 183 z183 167 [y0, y1, y2, y3, y4, y5, some (.inl (u6)), some (.inr (.inl (u7))), none, y9] [.inl (Int32.ofInt 0), .inl (t0), .inl (t1), .inl (t2), rf 11 (0), .inr (.inl (t4))] τ (w, σ') := h
  replace h := ei_p h rfl rfl rfl rfl
  obtain ⟨f, g, h⟩ := h
  clear g
  replace h : EV F f 183 z183 168 [y0, y1, y2, y3, y4, y5, some (.inl (u6)), some (.inr (.inl (u7))), none, y9] [.inl (Int32.ofInt 0), .inl (Int32.ofInt 0), .inl (t0), .inl (t1), .inl (t2), rf 11 (0), .inr (.inl (t4))] τ (w, σ') := h
  replace h := ei_p h rfl rfl rfl rfl
  obtain ⟨f, g, h⟩ := h
  clear g
  replace h : EV F f 183 z183 169 [y0, y1, y2, y3, y4, y5, some (.inl (u6)), some (.inr (.inl (u7))), none, y9] [.inl (Int32.ofInt 0), .inl (Int32.ofInt 0), .inl (Int32.ofInt 0), .inl (t0), .inl (t1), .inl (t2), rf 11 (0), .inr (.inl (t4))] τ (w, σ') := h
  replace h := ei_p h rfl rfl rfl rfl
  obtain ⟨f, g, h⟩ := h
  clear g
  replace h : EV F f 183 z183 170 [y0, y1, y2, y3, y4, y5, some (.inl (u6)), some (.inr (.inl (u7))), none, y9] [.inl (Int32.ofInt 0), .inl (Int32.ofInt 0), .inl (Int32.ofInt 0), .inl (Int32.ofInt 0), .inl (t0), .inl (t1), .inl (t2), rf 11 (0), .inr (.inl (t4))] τ (w, σ') := h
  replace h := ei_p h rfl rfl rfl rfl
  obtain ⟨f, g, h⟩ := h
  clear g
  replace h : EV F f 183 z183 171 [y0, y1, y2, y3, y4, y5, some (.inl (u6)), some (.inr (.inl (u7))), none, y9] [.inl (Int32.ofInt 0), .inl (Int32.ofInt 0), .inl (Int32.ofInt 0), .inl (Int32.ofInt 0), .inl (Int32.ofInt 0), .inl (t0), .inl (t1), .inl (t2), rf 11 (0), .inr (.inl (t4))] τ (w, σ') := h
  replace h := bx_L (ei_s (as := [.inl (Int32.ofInt 0), .inl (Int32.ofInt 0), .inl (Int32.ofInt 0), .inl (Int32.ofInt 0), .inl (Int32.ofInt 0), .inl (t0), .inl (t1), .inl (t2), rf 11 (0)]) h rfl (Nat.le_of_ble_eq_true rfl) rfl rfl) z172_at rfl
  rcases h with ⟨v1, σ2, r3, f, g, h⟩ | ⟨b, σ2, r3, e⟩
  rotate_left
  · exact (nt172 (x172 hsτ r3)).elim
  clear g
  have p4 := x172 hsτ r3
  have hsσ2 : HL σ2 := hl172 p4
  refine ⟨v1, σ2, gF_r r3 rfl hsτ, hsσ2, p4, ?_⟩
  replace h : EV F f 183 z183 174 [y0, y1, y2, y3, y4, y5, some (.inl (u6)), some (.inr (.inl (u7))), none, y9] [.inr (.inl (v1)), .inr (.inl (t4))] σ2 (w, σ') := h
  replace h := ei_p h rfl rfl rfl rfl
  obtain ⟨f, g, h⟩ := h
  clear g
  replace h : EV F f 183 z183 175 [y0, y1, y2, y3, y4, y5, some (.inl (u6)), some (.inr (.inl (u7))), none, y9] [.inl (lg_cmp (t4) (v1))] σ2 (w, σ') := h
  replace h := ei_c h rfl rfl rfl
  rcases h with ⟨hp5, f, g, h⟩ | ⟨hp5, f, g, h⟩
  · skip
    replace hp5 : (t4).toInt ≠ (v1).toInt := (ab_lc .ne _ _).mp hp5
    refine Or.inl ⟨hp5, ?_⟩
    clear g
    replace h : EV F f 183 z183 191 [y0, y1, y2, y3, y4, y5, some (.inl (u6)), some (.inr (.inl (u7))), none, y9] [] σ2 (w, σ') := h
    exact j183_191 hsσ2 h
  · skip
    replace hp5 : ¬ ((t4).toInt ≠ (v1).toInt) := (not_congr (ab_lc .ne _ _)).mp hp5
    refine Or.inr ⟨hp5, ?_⟩
    clear g
    replace h : EV F f 183 z183 178 [y0, y1, y2, y3, y4, y5, some (.inl (u6)), some (.inr (.inl (u7))), none, y9] [] σ2 (w, σ') := h
    replace h := ei_p h rfl rfl rfl rfl
    obtain ⟨f, g, h⟩ := h
    clear g
    replace h : EV F f 183 z183 180 [y0, y1, y2, y3, y4, y5, some (.inl (u6)), some (.inr (.inl (u7))), none, y9] [.inr (.inl (u7))] σ2 (w, σ') := h
    replace h := ei_p h rfl rfl rfl rfl
    obtain ⟨f, g, h⟩ := h
    clear g
    replace h : EV F f 183 z183 182 [y0, y1, y2, y3, y4, y5, some (.inl (u6)), some (.inr (.inl (u7))), none, y9] [.inl (u6), .inr (.inl (u7))] σ2 (w, σ') := h
    replace h := ei_p h rfl rfl rfl rfl
    obtain ⟨f, g, h⟩ := h
    clear g
    replace h : EV F f 183 z183 183 [y0, y1, y2, y3, y4, y5, some (.inl (u6)), some (.inr (.inl (u7))), none, y9] [.inr (.inl ((u6).toInt64)), .inr (.inl (u7))] σ2 (w, σ') := h
    replace h := ei_p h rfl rfl rfl rfl
    obtain ⟨f, g, h⟩ := h
    clear g
    replace h : EV F f 183 z183 184 [y0, y1, y2, y3, y4, y5, some (.inl (u6)), some (.inr (.inl (u7))), none, y9] [.inl (lg_cmp (u7) ((u6).toInt64))] σ2 (w, σ') := h
    replace h := ei_c h rfl rfl rfl
    rcases h with ⟨hp6, f, g, h⟩ | ⟨hp6, f, g, h⟩
    · skip
      replace hp6 : (u7).toInt < ((u6).toInt64).toInt := (ab_lc .lt _ _).mp hp6
      refine Or.inl ⟨hp6, ?_⟩
      clear g
      replace h : EV F f 183 z183 191 [y0, y1, y2, y3, y4, y5, some (.inl (u6)), some (.inr (.inl (u7))), none, y9] [] σ2 (w, σ') := h
      exact j183_191 hsσ2 h
    · skip
      replace hp6 : ¬ ((u7).toInt < ((u6).toInt64).toInt) := (not_congr (ab_lc .lt _ _)).mp hp6
      refine Or.inr ⟨hp6, ?_⟩
      clear g
      replace h : EV F f 183 z183 187 [y0, y1, y2, y3, y4, y5, some (.inl (u6)), some (.inr (.inl (u7))), none, y9] [] σ2 (w, σ') := h
      replace h := ei_p h rfl rfl rfl rfl
      obtain ⟨f, g, h⟩ := h
      clear g
      replace h : EV F f 183 z183 188 [y0, y1, y2, y3, y4, y5, some (.inl (u6)), some (.inr (.inl (u7))), none, y9] [.inl (Int32.ofInt 1)] σ2 (w, σ') := h
      replace h := ei_p h rfl rfl rfl rfl
      obtain ⟨f, g, h⟩ := h
      clear g
      replace h : EV F f 183 z183 192 [y0, y1, y2, y3, y4, y5, some (.inl (u6)), some (.inr (.inl (u7))), none, y9] [.inl (Int32.ofInt 1)] σ2 (w, σ') := h
      have e := ei_iret h rfl
      cases e
      exact ⟨rfl, rfl⟩
def J183_83 (u2 : Int32) (u5 : Int32) (u6 : Int32) (u7 : Int64) (t0 : Int32) (τ : mS) (w : mX) (σ' : mS) : Prop := (((t0).toInt = (0 : Int) ∧ J183_104 (u6) (u7) (t0) τ w σ') ∨ (¬ ((t0).toInt = (0 : Int)) ∧ (((u6).toInt = (0 : Int) ∧ J183_104 (u6) (u7) (t0) τ w σ') ∨ (¬ ((u6).toInt = (0 : Int)) ∧ ((∃ v3, P182 τ (u5) (.inl (some (.inl v3))) τ ∧ (((v3).toInt = (0 : Int) ∧ (0 ≤ (0 : Int) ∧ (0 : Int) < (τ.2.1 14 (6) : Int)) ∧ ∃ σ10, σ10 = m_set τ 14 (6) ((Int32.ofInt 0).toNatClampNeg) (.inr (.inl ((m_l τ 14 (6) (Int32.ofInt 0).toNatClampNeg) + ((u6).toInt64)))) ∧ (0 ≤ (0 : Int) ∧ (0 : Int) < (τ.2.1 14 (6) : Int)) ∧ (((u2).toInt ≠ (0 : Int) ∧ J183_166 (u6) (u7) (Int32.ofInt 2) (u5) (Int32.ofInt 20) (u7) σ10 w σ') ∨ (¬ ((u2).toInt ≠ (0 : Int)) ∧ J183_166 (u6) (u7) (Int32.ofInt 1) (u5) (Int32.ofInt 20) (u7) σ10 w σ'))) ∨ (¬ ((v3).toInt = (0 : Int)) ∧ J183_104 (u6) (u7) (t0) τ w σ'))) ∨ (∃ b, P182 τ (u5) (.inr b) τ ∧ w = .inr b ∧ σ' = τ))))))
set_option maxRecDepth 100000 in
theorem j183_83 {F f : Nat} {σ' τ : mS} {u2 : Int32} {u5 : Int32} {u6 : Int32} {u7 : Int64} {t0 : Int32} {y3 : Option mV} {y4 : Option mV} {y9 : Option mV} {w : mX} (hsτ : HL τ) (h : EV F f 183 z183 83 [some (rf 11 (0)), some (rf 14 (6)), some (.inl (u2)), y3, y4, some (.inl (u5)), some (.inl (u6)), some (.inr (.inl (u7))), none, y9] [.inl (t0)] τ (w, σ')) : J183_83 u2 u5 u6 u7 t0 τ w σ' := by
  unfold J183_83
  replace h := ei_p h rfl rfl rfl rfl
  obtain ⟨f, g, h⟩ := h
  clear g
  replace h : EV F f 183 z183 85 [some (rf 11 (0)), some (rf 14 (6)), some (.inl (u2)), y3, y4, some (.inl (u5)), some (.inl (u6)), some (.inr (.inl (u7))), none, some (.inl (t0))] [] τ (w, σ') := h
  replace h := ei_p h rfl rfl rfl rfl
  obtain ⟨f, g, h⟩ := h
  clear g
  replace h : EV F f 183 z183 87 [some (rf 11 (0)), some (rf 14 (6)), some (.inl (u2)), y3, y4, some (.inl (u5)), some (.inl (u6)), some (.inr (.inl (u7))), none, some (.inl (t0))] [.inl (t0)] τ (w, σ') := h
  replace h := ei_c h rfl rfl rfl
  rcases h with ⟨hp1, f, g, h⟩ | ⟨hp1, f, g, h⟩
  · skip
    replace hp1 : (t0).toInt = (0 : Int) := ic_eq.mp hp1
    refine Or.inl ⟨hp1, ?_⟩
    clear g
    replace h : EV F f 183 z183 104 [some (rf 11 (0)), some (rf 14 (6)), some (.inl (u2)), y3, y4, some (.inl (u5)), some (.inl (u6)), some (.inr (.inl (u7))), none, some (.inl (t0))] [] τ (w, σ') := h
    exact j183_104 hsτ h
  · skip
    replace hp1 : ¬ ((t0).toInt = (0 : Int)) := (not_congr ic_eq).mp hp1
    refine Or.inr ⟨hp1, ?_⟩
    clear g
    replace h : EV F f 183 z183 90 [some (rf 11 (0)), some (rf 14 (6)), some (.inl (u2)), y3, y4, some (.inl (u5)), some (.inl (u6)), some (.inr (.inl (u7))), none, some (.inl (t0))] [] τ (w, σ') := h
    replace h := ei_p h rfl rfl rfl rfl
    obtain ⟨f, g, h⟩ := h
    clear g
    replace h : EV F f 183 z183 92 [some (rf 11 (0)), some (rf 14 (6)), some (.inl (u2)), y3, y4, some (.inl (u5)), some (.inl (u6)), some (.inr (.inl (u7))), none, some (.inl (t0))] [.inl (u6)] τ (w, σ') := h
    replace h := ei_c h rfl rfl rfl
    rcases h with ⟨hp2, f, g, h⟩ | ⟨hp2, f, g, h⟩
    · skip
      replace hp2 : (u6).toInt = (0 : Int) := ic_eq.mp hp2
      refine Or.inl ⟨hp2, ?_⟩
      clear g
      replace h : EV F f 183 z183 104 [some (rf 11 (0)), some (rf 14 (6)), some (.inl (u2)), y3, y4, some (.inl (u5)), some (.inl (u6)), some (.inr (.inl (u7))), none, some (.inl (t0))] [] τ (w, σ') := h
      exact j183_104 hsτ h
    · skip
      replace hp2 : ¬ ((u6).toInt = (0 : Int)) := (not_congr ic_eq).mp hp2
      refine Or.inr ⟨hp2, ?_⟩
      clear g
      replace h : EV F f 183 z183 95 [some (rf 11 (0)), some (rf 14 (6)), some (.inl (u2)), y3, y4, some (.inl (u5)), some (.inl (u6)), some (.inr (.inl (u7))), none, some (.inl (t0))] [] τ (w, σ') := h
      replace h := ei_p h rfl rfl rfl rfl
      obtain ⟨f, g, h⟩ := h
      clear g
      replace h : EV F f 183 z183 96 [some (rf 11 (0)), some (rf 14 (6)), some (.inl (u2)), y3, y4, some (.inl (u5)), some (.inl (u6)), some (.inr (.inl (u7))), none, some (.inl (t0))] [rf 11 (0)] τ (w, σ') := h
      replace h := ei_p h rfl rfl rfl rfl
      obtain ⟨f, g, h⟩ := h
      clear g
      replace h : EV F f 183 z183 98 [some (rf 11 (0)), some (rf 14 (6)), some (.inl (u2)), y3, y4, some (.inl (u5)), some (.inl (u6)), some (.inr (.inl (u7))), none, some (.inl (t0))] [.inl (u5), rf 11 (0)] τ (w, σ') := h
      replace h := bx_I (ei_s (as := [.inl (u5), rf 11 (0)]) h rfl (Nat.le_of_ble_eq_true rfl) rfl rfl) z182_at (Or.inr rfl)
      rcases h with ⟨v3, σ4, r5, f, g, h⟩ | ⟨b, σ4, r5, e⟩
      · skip
        have er5 := ro2_run rfl r5
        rw [er5] at h r5
        clear g
        have p6 := x182 hsτ r5
        refine Or.inl ⟨v3, p6, ?_⟩
        replace h : EV F f 183 z183 101 [some (rf 11 (0)), some (rf 14 (6)), some (.inl (u2)), y3, y4, some (.inl (u5)), some (.inl (u6)), some (.inr (.inl (u7))), none, some (.inl (t0))] [.inl (v3)] τ (w, σ') := h
        replace h := ei_c h rfl rfl rfl
        rcases h with ⟨hp7, f, g, h⟩ | ⟨hp7, f, g, h⟩
        · skip
          replace hp7 : (v3).toInt = (0 : Int) := ic_eq.mp hp7
          refine Or.inl ⟨hp7, ?_⟩
          clear g
          replace h : EV F f 183 z183 141 [some (rf 11 (0)), some (rf 14 (6)), some (.inl (u2)), y3, y4, some (.inl (u5)), some (.inl (u6)), some (.inr (.inl (u7))), none, some (.inl (t0))] [] τ (w, σ') := h
          replace h := ei_p h rfl rfl rfl rfl
          obtain ⟨f, g, h⟩ := h
          clear g
          replace h : EV F f 183 z183 142 [some (rf 11 (0)), some (rf 14 (6)), some (.inl (u2)), y3, y4, some (.inl (u5)), some (.inl (u6)), some (.inr (.inl (u7))), none, some (.inl (t0))] [rf 14 (6)] τ (w, σ') := h
          replace h := ei_p h rfl rfl rfl rfl
          obtain ⟨f, g, h⟩ := h
          clear g
          replace h : EV F f 183 z183 143 [some (rf 11 (0)), some (rf 14 (6)), some (.inl (u2)), y3, y4, some (.inl (u5)), some (.inl (u6)), some (.inr (.inl (u7))), none, some (.inl (t0))] [.inl (Int32.ofInt 0), rf 14 (6)] τ (w, σ') := h
          replace h := ei_p h rfl rfl rfl rfl
          obtain ⟨f, g, h⟩ := h
          clear g
          replace h : EV F f 183 z183 144 [some (rf 11 (0)), some (rf 14 (6)), some (.inl (u2)), y3, y4, some (.inl (u5)), some (.inl (u6)), some (.inr (.inl (u7))), none, some (.inl (t0))] [.inl (Int32.ofInt 0), rf 14 (6), .inl (Int32.ofInt 0), rf 14 (6)] τ (w, σ') := h
          replace h := ei_lald h rfl (fun _ => rfl)
          obtain ⟨vp8, f, g, h⟩ := h
          clear g
          replace h : EV F f 183 z183 145 [some (rf 11 (0)), some (rf 14 (6)), some (.inl (u2)), y3, y4, some (.inl (u5)), some (.inl (u6)), some (.inr (.inl (u7))), none, some (.inl (t0))] [.inr (.inl (m_l τ 14 (6) (Int32.ofInt 0).toNatClampNeg)), .inl (Int32.ofInt 0), rf 14 (6)] τ (w, σ') := h
          refine ⟨vp_2 vp8, ?_⟩
          replace h := ei_p h rfl rfl rfl rfl
          obtain ⟨f, g, h⟩ := h
          clear g
          replace h : EV F f 183 z183 147 [some (rf 11 (0)), some (rf 14 (6)), some (.inl (u2)), y3, y4, some (.inl (u5)), some (.inl (u6)), some (.inr (.inl (u7))), none, some (.inl (t0))] [.inl (u6), .inr (.inl (m_l τ 14 (6) (Int32.ofInt 0).toNatClampNeg)), .inl (Int32.ofInt 0), rf 14 (6)] τ (w, σ') := h
          replace h := ei_p h rfl rfl rfl rfl
          obtain ⟨f, g, h⟩ := h
          clear g
          replace h : EV F f 183 z183 148 [some (rf 11 (0)), some (rf 14 (6)), some (.inl (u2)), y3, y4, some (.inl (u5)), some (.inl (u6)), some (.inr (.inl (u7))), none, some (.inl (t0))] [.inr (.inl ((u6).toInt64)), .inr (.inl (m_l τ 14 (6) (Int32.ofInt 0).toNatClampNeg)), .inl (Int32.ofInt 0), rf 14 (6)] τ (w, σ') := h
          replace h := ei_p h rfl rfl rfl rfl
          obtain ⟨f, g, h⟩ := h
          clear g
          replace h : EV F f 183 z183 149 [some (rf 11 (0)), some (rf 14 (6)), some (.inl (u2)), y3, y4, some (.inl (u5)), some (.inl (u6)), some (.inr (.inl (u7))), none, some (.inl (t0))] [.inr (.inl ((m_l τ 14 (6) (Int32.ofInt 0).toNatClampNeg) + ((u6).toInt64))), .inl (Int32.ofInt 0), rf 14 (6)] τ (w, σ') := h
          replace h := ei_last h rfl
          obtain ⟨ht9, f, g, h⟩ := h
          clear g
          obtain ⟨σ10, e11⟩ : ∃ s, s = m_set τ 14 (6) ((Int32.ofInt 0).toNatClampNeg) (.inr (.inl ((m_l τ 14 (6) (Int32.ofInt 0).toNatClampNeg) + ((u6).toInt64)))) := ⟨_, rfl⟩
          rw [← e11] at h
          have hsσ10 : HL σ10 := by rw [e11]; exact HL_setl hsτ rfl
          refine ⟨σ10, e11, ?_⟩
          replace h : EV F f 183 z183 150 [some (rf 11 (0)), some (rf 14 (6)), some (.inl (u2)), y3, y4, some (.inl (u5)), some (.inl (u6)), some (.inr (.inl (u7))), none, some (.inl (t0))] [] σ10 (w, σ') := h
          refine ⟨vp_2 ht9, ?_⟩
          replace h := ei_p h rfl rfl rfl rfl
          obtain ⟨f, g, h⟩ := h
          clear g
          replace h : EV F f 183 z183 152 [some (rf 11 (0)), some (rf 14 (6)), some (.inl (u2)), y3, y4, some (.inl (u5)), some (.inl (u6)), some (.inr (.inl (u7))), none, some (.inl (t0))] [.inr (.inl (u7))] σ10 (w, σ') := h
          replace h := ei_p h rfl rfl rfl rfl
          obtain ⟨f, g, h⟩ := h
          clear g
          replace h : EV F f 183 z183 153 [some (rf 11 (0)), some (rf 14 (6)), some (.inl (u2)), y3, y4, some (.inl (u5)), some (.inl (u6)), some (.inr (.inl (u7))), none, some (.inl (t0))] [rf 11 (0), .inr (.inl (u7))] σ10 (w, σ') := h
          replace h := ei_p h rfl rfl rfl rfl
          obtain ⟨f, g, h⟩ := h
          clear g
          replace h : EV F f 183 z183 155 [some (rf 11 (0)), some (rf 14 (6)), some (.inl (u2)), y3, y4, some (.inl (u5)), some (.inl (u6)), some (.inr (.inl (u7))), none, some (.inl (t0))] [.inl (Int32.ofInt 20), rf 11 (0), .inr (.inl (u7))] σ10 (w, σ') := h
          replace h := ei_p h rfl rfl rfl rfl
          obtain ⟨f, g, h⟩ := h
          clear g
          replace h : EV F f 183 z183 157 [some (rf 11 (0)), some (rf 14 (6)), some (.inl (u2)), y3, y4, some (.inl (u5)), some (.inl (u6)), some (.inr (.inl (u7))), none, some (.inl (t0))] [.inl (u5), .inl (Int32.ofInt 20), rf 11 (0), .inr (.inl (u7))] σ10 (w, σ') := h
          replace h := ei_p h rfl rfl rfl rfl
          obtain ⟨f, g, h⟩ := h
          clear g
          replace h : EV F f 183 z183 158 [some (rf 11 (0)), some (rf 14 (6)), some (.inl (u2)), y3, y4, some (.inl (u5)), some (.inl (u6)), some (.inr (.inl (u7))), none, some (.inl (t0))] [.inl (u2), .inl (u5), .inl (Int32.ofInt 20), rf 11 (0), .inr (.inl (u7))] σ10 (w, σ') := h
          replace h := ei_c h rfl rfl rfl
          rcases h with ⟨hp12, f, g, h⟩ | ⟨hp12, f, g, h⟩
          · skip
            replace hp12 : (u2).toInt ≠ (0 : Int) := ic_ne.mp hp12
            refine Or.inl ⟨hp12, ?_⟩
            clear g
            replace h : EV F f 183 z183 165 [some (rf 11 (0)), some (rf 14 (6)), some (.inl (u2)), y3, y4, some (.inl (u5)), some (.inl (u6)), some (.inr (.inl (u7))), none, some (.inl (t0))] [.inl (u5), .inl (Int32.ofInt 20), rf 11 (0), .inr (.inl (u7))] σ10 (w, σ') := h
            replace h := ei_p h rfl rfl rfl rfl
            obtain ⟨f, g, h⟩ := h
            clear g
            replace h : EV F f 183 z183 166 [some (rf 11 (0)), some (rf 14 (6)), some (.inl (u2)), y3, y4, some (.inl (u5)), some (.inl (u6)), some (.inr (.inl (u7))), none, some (.inl (t0))] [.inl (Int32.ofInt 2), .inl (u5), .inl (Int32.ofInt 20), rf 11 (0), .inr (.inl (u7))] σ10 (w, σ') := h
            exact j183_166 hsσ10 h
          · skip
            replace hp12 : ¬ ((u2).toInt ≠ (0 : Int)) := (not_congr ic_ne).mp hp12
            refine Or.inr ⟨hp12, ?_⟩
            clear g
            replace h : EV F f 183 z183 161 [some (rf 11 (0)), some (rf 14 (6)), some (.inl (u2)), y3, y4, some (.inl (u5)), some (.inl (u6)), some (.inr (.inl (u7))), none, some (.inl (t0))] [.inl (u5), .inl (Int32.ofInt 20), rf 11 (0), .inr (.inl (u7))] σ10 (w, σ') := h
            replace h := ei_p h rfl rfl rfl rfl
            obtain ⟨f, g, h⟩ := h
            clear g
            replace h : EV F f 183 z183 162 [some (rf 11 (0)), some (rf 14 (6)), some (.inl (u2)), y3, y4, some (.inl (u5)), some (.inl (u6)), some (.inr (.inl (u7))), none, some (.inl (t0))] [.inl (Int32.ofInt 1), .inl (u5), .inl (Int32.ofInt 20), rf 11 (0), .inr (.inl (u7))] σ10 (w, σ') := h
            replace h := ei_p h rfl rfl rfl rfl
            obtain ⟨f, g, h⟩ := h
            clear g
            replace h : EV F f 183 z183 166 [some (rf 11 (0)), some (rf 14 (6)), some (.inl (u2)), y3, y4, some (.inl (u5)), some (.inl (u6)), some (.inr (.inl (u7))), none, some (.inl (t0))] [.inl (Int32.ofInt 1), .inl (u5), .inl (Int32.ofInt 20), rf 11 (0), .inr (.inl (u7))] σ10 (w, σ') := h
            exact j183_166 hsσ10 h
        · skip
          replace hp7 : ¬ ((v3).toInt = (0 : Int)) := (not_congr ic_eq).mp hp7
          refine Or.inr ⟨hp7, ?_⟩
          clear g
          replace h : EV F f 183 z183 104 [some (rf 11 (0)), some (rf 14 (6)), some (.inl (u2)), y3, y4, some (.inl (u5)), some (.inl (u6)), some (.inr (.inl (u7))), none, some (.inl (t0))] [] τ (w, σ') := h
          exact j183_104 hsτ h
      · skip
        have er5 := ro2_run rfl r5
        rw [er5] at e r5
        have p6 := x182 hsτ r5
        cases e
        exact Or.inr ⟨b, p6, rfl, rfl⟩
def J183_82 (u2 : Int32) (u5 : Int32) (u6 : Int32) (u7 : Int64) (τ : mS) (w : mX) (σ' : mS) : Prop := J183_83 (u2) (u5) (u6) (u7) (Int32.ofInt 0) τ w σ'
set_option maxRecDepth 100000 in
theorem j183_82 {F f : Nat} {σ' τ : mS} {u2 : Int32} {u5 : Int32} {u6 : Int32} {u7 : Int64} {y3 : Option mV} {y4 : Option mV} {y9 : Option mV} {w : mX} (hsτ : HL τ) (h : EV F f 183 z183 82 [some (rf 11 (0)), some (rf 14 (6)), some (.inl (u2)), y3, y4, some (.inl (u5)), some (.inl (u6)), some (.inr (.inl (u7))), none, y9] [] τ (w, σ')) : J183_82 u2 u5 u6 u7 τ w σ' := by
  unfold J183_82
  replace h := ei_p h rfl rfl rfl rfl
  obtain ⟨f, g, h⟩ := h
  clear g
  replace h : EV F f 183 z183 83 [some (rf 11 (0)), some (rf 14 (6)), some (.inl (u2)), y3, y4, some (.inl (u5)), some (.inl (u6)), some (.inr (.inl (u7))), none, y9] [.inl (Int32.ofInt 0)] τ (w, σ') := h
  exact j183_83 hsτ h
def J183_78 (u2 : Int32) (u5 : Int32) (u6 : Int32) (u7 : Int64) (τ : mS) (w : mX) (σ' : mS) : Prop := J183_83 (u2) (u5) (u6) (u7) (Int32.ofInt 1) τ w σ'
set_option maxRecDepth 100000 in
theorem j183_78 {F f : Nat} {σ' τ : mS} {u2 : Int32} {u5 : Int32} {u6 : Int32} {u7 : Int64} {y3 : Option mV} {y4 : Option mV} {y9 : Option mV} {w : mX} (hsτ : HL τ) (h : EV F f 183 z183 78 [some (rf 11 (0)), some (rf 14 (6)), some (.inl (u2)), y3, y4, some (.inl (u5)), some (.inl (u6)), some (.inr (.inl (u7))), none, y9] [] τ (w, σ')) : J183_78 u2 u5 u6 u7 τ w σ' := by
  unfold J183_78
  replace h := ei_p h rfl rfl rfl rfl
  obtain ⟨f, g, h⟩ := h
  clear g
  replace h : EV F f 183 z183 79 [some (rf 11 (0)), some (rf 14 (6)), some (.inl (u2)), y3, y4, some (.inl (u5)), some (.inl (u6)), some (.inr (.inl (u7))), none, y9] [.inl (Int32.ofInt 1)] τ (w, σ') := h
  replace h := ei_p h rfl rfl rfl rfl
  obtain ⟨f, g, h⟩ := h
  clear g
  replace h : EV F f 183 z183 83 [some (rf 11 (0)), some (rf 14 (6)), some (.inl (u2)), y3, y4, some (.inl (u5)), some (.inl (u6)), some (.inr (.inl (u7))), none, y9] [.inl (Int32.ofInt 1)] τ (w, σ') := h
  exact j183_83 hsτ h
def J183_44 (u2 : Int32) (u5 : Int32) (t0 : Int32) (τ : mS) (w : mX) (σ' : mS) : Prop := ∃ v1 σ2, gF τ σ2 ∧ HL σ2 ∧ P172 τ (u2) (u5) (t0) (Int32.ofInt 0) (Int32.ofInt 0) (Int32.ofInt 0) (Int32.ofInt 0) (Int32.ofInt 0) (.inl (some (.inr (.inl v1)))) σ2 ∧ (((5 : Int) ≤ (u5).toInt ∧ J183_82 (u2) (u5) (t0) (v1) σ2 w σ') ∨ (¬ ((5 : Int) ≤ (u5).toInt) ∧ (((0 : Int) ≤ (u5).toInt ∧ J183_78 (u2) (u5) (t0) (v1) σ2 w σ') ∨ (¬ ((0 : Int) ≤ (u5).toInt) ∧ (((u2).toInt ≠ (1 : Int) ∧ J183_82 (u2) (u5) (t0) (v1) σ2 w σ') ∨ (¬ ((u2).toInt ≠ (1 : Int)) ∧ J183_78 (u2) (u5) (t0) (v1) σ2 w σ'))))))
set_option maxRecDepth 100000 in
theorem j183_44 {F f : Nat} {σ' τ : mS} {u2 : Int32} {u5 : Int32} {t0 : Int32} {y3 : Option mV} {y4 : Option mV} {y6 : Option mV} {y7 : Option mV} {y8 : Option mV} {y9 : Option mV} {w : mX} (hsτ : HL τ) (h : EV F f 183 z183 44 [some (rf 11 (0)), some (rf 14 (6)), some (.inl (u2)), y3, y4, some (.inl (u5)), y6, y7, y8, y9] [.inl (t0)] τ (w, σ')) : J183_44 u2 u5 t0 τ w σ' := by
  unfold J183_44
  replace h := ei_p h rfl rfl rfl rfl
  obtain ⟨f, g, h⟩ := h
  clear g
  replace h : EV F f 183 z183 46 [some (rf 11 (0)), some (rf 14 (6)), some (.inl (u2)), y3, y4, some (.inl (u5)), some (.inl (t0)), y7, y8, y9] [] τ (w, σ') := h
  replace h := ei_p h rfl rfl rfl rfl
  obtain ⟨f, g, h⟩ := h
  clear g
  replace h : EV F f 183 z183 47 [some (rf 11 (0)), some (rf 14 (6)), some (.inl (u2)), y3, y4, some (.inl (u5)), some (.inl (t0)), y7, y8, y9] [rf 11 (0)] τ (w, σ') := h
  replace h := ei_p h rfl rfl rfl rfl
  obtain ⟨f, g, h⟩ := h
  clear g
  replace h : EV F f 183 z183 48 [some (rf 11 (0)), some (rf 14 (6)), some (.inl (u2)), y3, y4, some (.inl (u5)), some (.inl (t0)), y7, y8, y9] [.inl (u2), rf 11 (0)] τ (w, σ') := h
  replace h := ei_p h rfl rfl rfl rfl
  obtain ⟨f, g, h⟩ := h
  clear g
  replace h : EV F f 183 z183 50 [some (rf 11 (0)), some (rf 14 (6)), some (.inl (u2)), y3, y4, some (.inl (u5)), some (.inl (t0)), y7, y8, y9] [.inl (u5), .inl (u2), rf 11 (0)] τ (w, σ') := h
  replace h := ei_p h rfl rfl rfl rfl
  obtain ⟨f, g, h⟩ := h
  clear g
  replace h : EV F f 183 z183 52 [some (rf 11 (0)), some (rf 14 (6)), some (.inl (u2)), y3, y4, some (.inl (u5)), some (.inl (t0)), y7, y8, y9] [.inl (t0), .inl (u5), .inl (u2), rf 11 (0)] τ (w, σ') := h
  replace h := ei_p h rfl rfl rfl rfl
  obtain ⟨f, g, h⟩ := h
  clear g
  replace h : EV F f 183 z183 53 [some (rf 11 (0)), some (rf 14 (6)), some (.inl (u2)), y3, y4, some (.inl (u5)), some (.inl (t0)), y7, y8, y9] [.inl (Int32.ofInt 0), .inl (t0), .inl (u5), .inl (u2), rf 11 (0)] τ (w, σ') := h
  replace h := ei_p h rfl rfl rfl rfl
  obtain ⟨f, g, h⟩ := h
  clear g
  replace h : EV F f 183 z183 54 [some (rf 11 (0)), some (rf 14 (6)), some (.inl (u2)), y3, y4, some (.inl (u5)), some (.inl (t0)), y7, y8, y9] [.inl (Int32.ofInt 0), .inl (Int32.ofInt 0), .inl (t0), .inl (u5), .inl (u2), rf 11 (0)] τ (w, σ') := h
  replace h := ei_p h rfl rfl rfl rfl
  obtain ⟨f, g, h⟩ := h
  clear g
  replace h : EV F f 183 z183 55 [some (rf 11 (0)), some (rf 14 (6)), some (.inl (u2)), y3, y4, some (.inl (u5)), some (.inl (t0)), y7, y8, y9] [.inl (Int32.ofInt 0), .inl (Int32.ofInt 0), .inl (Int32.ofInt 0), .inl (t0), .inl (u5), .inl (u2), rf 11 (0)] τ (w, σ') := h
  replace h := ei_p h rfl rfl rfl rfl
  obtain ⟨f, g, h⟩ := h
  clear g
  replace h : EV F f 183 z183 56 [some (rf 11 (0)), some (rf 14 (6)), some (.inl (u2)), y3, y4, some (.inl (u5)), some (.inl (t0)), y7, y8, y9] [.inl (Int32.ofInt 0), .inl (Int32.ofInt 0), .inl (Int32.ofInt 0), .inl (Int32.ofInt 0), .inl (t0), .inl (u5), .inl (u2), rf 11 (0)] τ (w, σ') := h
  replace h := ei_p h rfl rfl rfl rfl
  obtain ⟨f, g, h⟩ := h
  clear g
  replace h : EV F f 183 z183 57 [some (rf 11 (0)), some (rf 14 (6)), some (.inl (u2)), y3, y4, some (.inl (u5)), some (.inl (t0)), y7, y8, y9] [.inl (Int32.ofInt 0), .inl (Int32.ofInt 0), .inl (Int32.ofInt 0), .inl (Int32.ofInt 0), .inl (Int32.ofInt 0), .inl (t0), .inl (u5), .inl (u2), rf 11 (0)] τ (w, σ') := h
  replace h := bx_L (ei_s (as := [.inl (Int32.ofInt 0), .inl (Int32.ofInt 0), .inl (Int32.ofInt 0), .inl (Int32.ofInt 0), .inl (Int32.ofInt 0), .inl (t0), .inl (u5), .inl (u2), rf 11 (0)]) h rfl (Nat.le_of_ble_eq_true rfl) rfl rfl) z172_at rfl
  rcases h with ⟨v1, σ2, r3, f, g, h⟩ | ⟨b, σ2, r3, e⟩
  rotate_left
  · exact (nt172 (x172 hsτ r3)).elim
  clear g
  have p4 := x172 hsτ r3
  have hsσ2 : HL σ2 := hl172 p4
  refine ⟨v1, σ2, gF_r r3 rfl hsτ, hsσ2, p4, ?_⟩
  replace h : EV F f 183 z183 60 [some (rf 11 (0)), some (rf 14 (6)), some (.inl (u2)), y3, y4, some (.inl (u5)), some (.inl (t0)), y7, y8, y9] [.inr (.inl (v1))] σ2 (w, σ') := h
  replace h := ei_p h rfl rfl rfl rfl
  obtain ⟨f, g, h⟩ := h
  clear g
  replace h : EV F f 183 z183 62 [some (rf 11 (0)), some (rf 14 (6)), some (.inl (u2)), y3, y4, some (.inl (u5)), some (.inl (t0)), some (.inr (.inl (v1))), none, y9] [] σ2 (w, σ') := h
  replace h := ei_p h rfl rfl rfl rfl
  obtain ⟨f, g, h⟩ := h
  clear g
  replace h : EV F f 183 z183 64 [some (rf 11 (0)), some (rf 14 (6)), some (.inl (u2)), y3, y4, some (.inl (u5)), some (.inl (t0)), some (.inr (.inl (v1))), none, y9] [.inl (u5)] σ2 (w, σ') := h
  replace h := ei_p h rfl rfl rfl rfl
  obtain ⟨f, g, h⟩ := h
  clear g
  replace h : EV F f 183 z183 65 [some (rf 11 (0)), some (rf 14 (6)), some (.inl (u2)), y3, y4, some (.inl (u5)), some (.inl (t0)), some (.inr (.inl (v1))), none, y9] [.inl (Int32.ofInt 5), .inl (u5)] σ2 (w, σ') := h
  replace h := ei_c h rfl rfl rfl
  rcases h with ⟨hp5, f, g, h⟩ | ⟨hp5, f, g, h⟩
  · skip
    replace hp5 : (5 : Int) ≤ (u5).toInt := ic_ge.mp hp5
    refine Or.inl ⟨hp5, ?_⟩
    clear g
    replace h : EV F f 183 z183 82 [some (rf 11 (0)), some (rf 14 (6)), some (.inl (u2)), y3, y4, some (.inl (u5)), some (.inl (t0)), some (.inr (.inl (v1))), none, y9] [] σ2 (w, σ') := h
    exact j183_82 hsσ2 h
  · skip
    replace hp5 : ¬ ((5 : Int) ≤ (u5).toInt) := (not_congr ic_ge).mp hp5
    refine Or.inr ⟨hp5, ?_⟩
    clear g
    replace h : EV F f 183 z183 68 [some (rf 11 (0)), some (rf 14 (6)), some (.inl (u2)), y3, y4, some (.inl (u5)), some (.inl (t0)), some (.inr (.inl (v1))), none, y9] [] σ2 (w, σ') := h
    replace h := ei_p h rfl rfl rfl rfl
    obtain ⟨f, g, h⟩ := h
    clear g
    replace h : EV F f 183 z183 70 [some (rf 11 (0)), some (rf 14 (6)), some (.inl (u2)), y3, y4, some (.inl (u5)), some (.inl (t0)), some (.inr (.inl (v1))), none, y9] [.inl (u5)] σ2 (w, σ') := h
    replace h := ei_c h rfl rfl rfl
    rcases h with ⟨hp6, f, g, h⟩ | ⟨hp6, f, g, h⟩
    · skip
      replace hp6 : (0 : Int) ≤ (u5).toInt := ic_ge.mp hp6
      refine Or.inl ⟨hp6, ?_⟩
      clear g
      replace h : EV F f 183 z183 78 [some (rf 11 (0)), some (rf 14 (6)), some (.inl (u2)), y3, y4, some (.inl (u5)), some (.inl (t0)), some (.inr (.inl (v1))), none, y9] [] σ2 (w, σ') := h
      exact j183_78 hsσ2 h
    · skip
      replace hp6 : ¬ ((0 : Int) ≤ (u5).toInt) := (not_congr ic_ge).mp hp6
      refine Or.inr ⟨hp6, ?_⟩
      clear g
      replace h : EV F f 183 z183 73 [some (rf 11 (0)), some (rf 14 (6)), some (.inl (u2)), y3, y4, some (.inl (u5)), some (.inl (t0)), some (.inr (.inl (v1))), none, y9] [] σ2 (w, σ') := h
      replace h := ei_p h rfl rfl rfl rfl
      obtain ⟨f, g, h⟩ := h
      clear g
      replace h : EV F f 183 z183 74 [some (rf 11 (0)), some (rf 14 (6)), some (.inl (u2)), y3, y4, some (.inl (u5)), some (.inl (t0)), some (.inr (.inl (v1))), none, y9] [.inl (u2)] σ2 (w, σ') := h
      replace h := ei_p h rfl rfl rfl rfl
      obtain ⟨f, g, h⟩ := h
      clear g
      replace h : EV F f 183 z183 75 [some (rf 11 (0)), some (rf 14 (6)), some (.inl (u2)), y3, y4, some (.inl (u5)), some (.inl (t0)), some (.inr (.inl (v1))), none, y9] [.inl (Int32.ofInt 1), .inl (u2)] σ2 (w, σ') := h
      replace h := ei_c h rfl rfl rfl
      rcases h with ⟨hp7, f, g, h⟩ | ⟨hp7, f, g, h⟩
      · skip
        replace hp7 : (u2).toInt ≠ (1 : Int) := ic_ne.mp hp7
        refine Or.inl ⟨hp7, ?_⟩
        clear g
        replace h : EV F f 183 z183 82 [some (rf 11 (0)), some (rf 14 (6)), some (.inl (u2)), y3, y4, some (.inl (u5)), some (.inl (t0)), some (.inr (.inl (v1))), none, y9] [] σ2 (w, σ') := h
        exact j183_82 hsσ2 h
      · skip
        replace hp7 : ¬ ((u2).toInt ≠ (1 : Int)) := (not_congr ic_ne).mp hp7
        refine Or.inr ⟨hp7, ?_⟩
        clear g
        replace h : EV F f 183 z183 78 [some (rf 11 (0)), some (rf 14 (6)), some (.inl (u2)), y3, y4, some (.inl (u5)), some (.inl (t0)), some (.inr (.inl (v1))), none, y9] [] σ2 (w, σ') := h
        exact j183_78 hsσ2 h
def P183 (σ : mS) (x3 : Int32) (x4 : Int32) (x5 : Int32) (w : mX) (σ' : mS) : Prop := ∃ n2, n2 = ((x4) - (x4) / (Int32.ofInt 7) * (Int32.ofInt 7)) - (Int32.ofInt 1) ∧ ((((x5) - (x5) / (Int32.ofInt 40) * (Int32.ofInt 40)).toInt ≠ (0 : Int) ∧ ((((x5) - (x5) / (Int32.ofInt 3) * (Int32.ofInt 3)).toInt ≠ (0 : Int) ∧ J183_44 (x3) (n2) ((Int32.ofInt 1) + ((x5) * (Int32.ofInt 11))) σ w σ') ∨ (¬ (((x5) - (x5) / (Int32.ofInt 3) * (Int32.ofInt 3)).toInt ≠ (0 : Int)) ∧ J183_44 (x3) (n2) ((Int32.ofInt 1) + ((x5) - (x5) / (Int32.ofInt 100) * (Int32.ofInt 100))) σ w σ'))) ∨ (¬ (((x5) - (x5) / (Int32.ofInt 40) * (Int32.ofInt 40)).toInt ≠ (0 : Int)) ∧ J183_44 (x3) (n2) (Int32.ofInt 0) σ w σ'))
set_option maxRecDepth 100000 in
theorem x183 {σ σ' : mS} {x3 : Int32} {x4 : Int32} {x5 : Int32} {w : mX} (hs : HL σ) (h : ev_run sm_all 183 [rf 11 (0), rf 14 (6), .inl (x3), .inl (x4), .inl (x5)] σ (w) σ') : P183 σ x3 x4 x5 w σ' := by
  unfold P183
  obtain ⟨F, f, h⟩ := ei_go h z183_at
  replace h : EV F f 183 z183 0 [some (rf 11 (0)), some (rf 14 (6)), some (.inl (x3)), some (.inl (x4)), some (.inl (x5)), none, none, none, none, none] [] σ (w, σ') := h
  replace h := ei_p h rfl rfl rfl rfl
  obtain ⟨f, g, h⟩ := h
  clear g
  replace h : EV F f 183 z183 1 [some (rf 11 (0)), some (rf 14 (6)), some (.inl (x3)), some (.inl (x4)), some (.inl (x5)), none, none, none, none, none] [.inl (x4)] σ (w, σ') := h
  replace h := ei_p h rfl rfl rfl rfl
  obtain ⟨f, g, h⟩ := h
  clear g
  replace h : EV F f 183 z183 3 [some (rf 11 (0)), some (rf 14 (6)), some (.inl (x3)), some (.inl (x4)), some (.inl (x5)), none, none, none, none, none] [.inl (Int32.ofInt 7), .inl (x4)] σ (w, σ') := h
  replace h := ei_irem h rfl
  obtain ⟨hd1, f, g, h⟩ := h
  clear g
  replace h : EV F f 183 z183 4 [some (rf 11 (0)), some (rf 14 (6)), some (.inl (x3)), some (.inl (x4)), some (.inl (x5)), none, none, none, none, none] [.inl ((x4) - (x4) / (Int32.ofInt 7) * (Int32.ofInt 7))] σ (w, σ') := h
  replace h := ei_p h rfl rfl rfl rfl
  obtain ⟨f, g, h⟩ := h
  clear g
  replace h : EV F f 183 z183 5 [some (rf 11 (0)), some (rf 14 (6)), some (.inl (x3)), some (.inl (x4)), some (.inl (x5)), none, none, none, none, none] [.inl (Int32.ofInt 1), .inl ((x4) - (x4) / (Int32.ofInt 7) * (Int32.ofInt 7))] σ (w, σ') := h
  replace h := ei_p h rfl rfl rfl rfl
  obtain ⟨f, g, h⟩ := h
  clear g
  replace h : EV F f 183 z183 6 [some (rf 11 (0)), some (rf 14 (6)), some (.inl (x3)), some (.inl (x4)), some (.inl (x5)), none, none, none, none, none] [.inl (((x4) - (x4) / (Int32.ofInt 7) * (Int32.ofInt 7)) - (Int32.ofInt 1))] σ (w, σ') := h
  replace h := ei_p h rfl rfl rfl rfl
  obtain ⟨f, g, h⟩ := h
  clear g
  replace h : EV F f 183 z183 8 [some (rf 11 (0)), some (rf 14 (6)), some (.inl (x3)), some (.inl (x4)), some (.inl (x5)), some (.inl (((x4) - (x4) / (Int32.ofInt 7) * (Int32.ofInt 7)) - (Int32.ofInt 1))), none, none, none, none] [] σ (w, σ') := h
  obtain ⟨n2, e3⟩ : ∃ s, s = ((x4) - (x4) / (Int32.ofInt 7) * (Int32.ofInt 7)) - (Int32.ofInt 1) := ⟨_, rfl⟩
  rw [← e3] at h
  refine ⟨n2, e3, ?_⟩
  replace h : EV F f 183 z183 8 [some (rf 11 (0)), some (rf 14 (6)), some (.inl (x3)), some (.inl (x4)), some (.inl (x5)), some (.inl (n2)), none, none, none, none] [] σ (w, σ') := h
  replace h := ei_p h rfl rfl rfl rfl
  obtain ⟨f, g, h⟩ := h
  clear g
  replace h : EV F f 183 z183 10 [some (rf 11 (0)), some (rf 14 (6)), some (.inl (x3)), some (.inl (x4)), some (.inl (x5)), some (.inl (n2)), none, none, none, none] [.inl (x5)] σ (w, σ') := h
  replace h := ei_p h rfl rfl rfl rfl
  obtain ⟨f, g, h⟩ := h
  clear g
  replace h : EV F f 183 z183 12 [some (rf 11 (0)), some (rf 14 (6)), some (.inl (x3)), some (.inl (x4)), some (.inl (x5)), some (.inl (n2)), none, none, none, none] [.inl (Int32.ofInt 40), .inl (x5)] σ (w, σ') := h
  replace h := ei_irem h rfl
  obtain ⟨hd4, f, g, h⟩ := h
  clear g
  replace h : EV F f 183 z183 13 [some (rf 11 (0)), some (rf 14 (6)), some (.inl (x3)), some (.inl (x4)), some (.inl (x5)), some (.inl (n2)), none, none, none, none] [.inl ((x5) - (x5) / (Int32.ofInt 40) * (Int32.ofInt 40))] σ (w, σ') := h
  replace h := ei_c h rfl rfl rfl
  rcases h with ⟨hp5, f, g, h⟩ | ⟨hp5, f, g, h⟩
  · skip
    replace hp5 : ((x5) - (x5) / (Int32.ofInt 40) * (Int32.ofInt 40)).toInt ≠ (0 : Int) := ic_ne.mp hp5
    refine Or.inl ⟨hp5, ?_⟩
    clear g
    replace h : EV F f 183 z183 20 [some (rf 11 (0)), some (rf 14 (6)), some (.inl (x3)), some (.inl (x4)), some (.inl (x5)), some (.inl (n2)), none, none, none, none] [] σ (w, σ') := h
    replace h := ei_p h rfl rfl rfl rfl
    obtain ⟨f, g, h⟩ := h
    clear g
    replace h : EV F f 183 z183 22 [some (rf 11 (0)), some (rf 14 (6)), some (.inl (x3)), some (.inl (x4)), some (.inl (x5)), some (.inl (n2)), none, none, none, none] [.inl (x5)] σ (w, σ') := h
    replace h := ei_p h rfl rfl rfl rfl
    obtain ⟨f, g, h⟩ := h
    clear g
    replace h : EV F f 183 z183 23 [some (rf 11 (0)), some (rf 14 (6)), some (.inl (x3)), some (.inl (x4)), some (.inl (x5)), some (.inl (n2)), none, none, none, none] [.inl (Int32.ofInt 3), .inl (x5)] σ (w, σ') := h
    replace h := ei_irem h rfl
    obtain ⟨hd6, f, g, h⟩ := h
    clear g
    replace h : EV F f 183 z183 24 [some (rf 11 (0)), some (rf 14 (6)), some (.inl (x3)), some (.inl (x4)), some (.inl (x5)), some (.inl (n2)), none, none, none, none] [.inl ((x5) - (x5) / (Int32.ofInt 3) * (Int32.ofInt 3))] σ (w, σ') := h
    replace h := ei_c h rfl rfl rfl
    rcases h with ⟨hp7, f, g, h⟩ | ⟨hp7, f, g, h⟩
    · skip
      replace hp7 : ((x5) - (x5) / (Int32.ofInt 3) * (Int32.ofInt 3)).toInt ≠ (0 : Int) := ic_ne.mp hp7
      refine Or.inl ⟨hp7, ?_⟩
      clear g
      replace h : EV F f 183 z183 37 [some (rf 11 (0)), some (rf 14 (6)), some (.inl (x3)), some (.inl (x4)), some (.inl (x5)), some (.inl (n2)), none, none, none, none] [] σ (w, σ') := h
      replace h := ei_p h rfl rfl rfl rfl
      obtain ⟨f, g, h⟩ := h
      clear g
      replace h : EV F f 183 z183 38 [some (rf 11 (0)), some (rf 14 (6)), some (.inl (x3)), some (.inl (x4)), some (.inl (x5)), some (.inl (n2)), none, none, none, none] [.inl (Int32.ofInt 1)] σ (w, σ') := h
      replace h := ei_p h rfl rfl rfl rfl
      obtain ⟨f, g, h⟩ := h
      clear g
      replace h : EV F f 183 z183 40 [some (rf 11 (0)), some (rf 14 (6)), some (.inl (x3)), some (.inl (x4)), some (.inl (x5)), some (.inl (n2)), none, none, none, none] [.inl (x5), .inl (Int32.ofInt 1)] σ (w, σ') := h
      replace h := ei_p h rfl rfl rfl rfl
      obtain ⟨f, g, h⟩ := h
      clear g
      replace h : EV F f 183 z183 42 [some (rf 11 (0)), some (rf 14 (6)), some (.inl (x3)), some (.inl (x4)), some (.inl (x5)), some (.inl (n2)), none, none, none, none] [.inl (Int32.ofInt 11), .inl (x5), .inl (Int32.ofInt 1)] σ (w, σ') := h
      replace h := ei_p h rfl rfl rfl rfl
      obtain ⟨f, g, h⟩ := h
      clear g
      replace h : EV F f 183 z183 43 [some (rf 11 (0)), some (rf 14 (6)), some (.inl (x3)), some (.inl (x4)), some (.inl (x5)), some (.inl (n2)), none, none, none, none] [.inl ((x5) * (Int32.ofInt 11)), .inl (Int32.ofInt 1)] σ (w, σ') := h
      replace h := ei_p h rfl rfl rfl rfl
      obtain ⟨f, g, h⟩ := h
      clear g
      replace h : EV F f 183 z183 44 [some (rf 11 (0)), some (rf 14 (6)), some (.inl (x3)), some (.inl (x4)), some (.inl (x5)), some (.inl (n2)), none, none, none, none] [.inl ((Int32.ofInt 1) + ((x5) * (Int32.ofInt 11)))] σ (w, σ') := h
      exact j183_44 hs h
    · skip
      replace hp7 : ¬ (((x5) - (x5) / (Int32.ofInt 3) * (Int32.ofInt 3)).toInt ≠ (0 : Int)) := (not_congr ic_ne).mp hp7
      refine Or.inr ⟨hp7, ?_⟩
      clear g
      replace h : EV F f 183 z183 27 [some (rf 11 (0)), some (rf 14 (6)), some (.inl (x3)), some (.inl (x4)), some (.inl (x5)), some (.inl (n2)), none, none, none, none] [] σ (w, σ') := h
      replace h := ei_p h rfl rfl rfl rfl
      obtain ⟨f, g, h⟩ := h
      clear g
      replace h : EV F f 183 z183 28 [some (rf 11 (0)), some (rf 14 (6)), some (.inl (x3)), some (.inl (x4)), some (.inl (x5)), some (.inl (n2)), none, none, none, none] [.inl (Int32.ofInt 1)] σ (w, σ') := h
      replace h := ei_p h rfl rfl rfl rfl
      obtain ⟨f, g, h⟩ := h
      clear g
      replace h : EV F f 183 z183 30 [some (rf 11 (0)), some (rf 14 (6)), some (.inl (x3)), some (.inl (x4)), some (.inl (x5)), some (.inl (n2)), none, none, none, none] [.inl (x5), .inl (Int32.ofInt 1)] σ (w, σ') := h
      replace h := ei_p h rfl rfl rfl rfl
      obtain ⟨f, g, h⟩ := h
      clear g
      replace h : EV F f 183 z183 32 [some (rf 11 (0)), some (rf 14 (6)), some (.inl (x3)), some (.inl (x4)), some (.inl (x5)), some (.inl (n2)), none, none, none, none] [.inl (Int32.ofInt 100), .inl (x5), .inl (Int32.ofInt 1)] σ (w, σ') := h
      replace h := ei_irem h rfl
      obtain ⟨hd8, f, g, h⟩ := h
      clear g
      replace h : EV F f 183 z183 33 [some (rf 11 (0)), some (rf 14 (6)), some (.inl (x3)), some (.inl (x4)), some (.inl (x5)), some (.inl (n2)), none, none, none, none] [.inl ((x5) - (x5) / (Int32.ofInt 100) * (Int32.ofInt 100)), .inl (Int32.ofInt 1)] σ (w, σ') := h
      replace h := ei_p h rfl rfl rfl rfl
      obtain ⟨f, g, h⟩ := h
      clear g
      replace h : EV F f 183 z183 34 [some (rf 11 (0)), some (rf 14 (6)), some (.inl (x3)), some (.inl (x4)), some (.inl (x5)), some (.inl (n2)), none, none, none, none] [.inl ((Int32.ofInt 1) + ((x5) - (x5) / (Int32.ofInt 100) * (Int32.ofInt 100)))] σ (w, σ') := h
      replace h := ei_p h rfl rfl rfl rfl
      obtain ⟨f, g, h⟩ := h
      clear g
      replace h : EV F f 183 z183 44 [some (rf 11 (0)), some (rf 14 (6)), some (.inl (x3)), some (.inl (x4)), some (.inl (x5)), some (.inl (n2)), none, none, none, none] [.inl ((Int32.ofInt 1) + ((x5) - (x5) / (Int32.ofInt 100) * (Int32.ofInt 100)))] σ (w, σ') := h
      exact j183_44 hs h
  · skip
    replace hp5 : ¬ (((x5) - (x5) / (Int32.ofInt 40) * (Int32.ofInt 40)).toInt ≠ (0 : Int)) := (not_congr ic_ne).mp hp5
    refine Or.inr ⟨hp5, ?_⟩
    clear g
    replace h : EV F f 183 z183 16 [some (rf 11 (0)), some (rf 14 (6)), some (.inl (x3)), some (.inl (x4)), some (.inl (x5)), some (.inl (n2)), none, none, none, none] [] σ (w, σ') := h
    replace h := ei_p h rfl rfl rfl rfl
    obtain ⟨f, g, h⟩ := h
    clear g
    replace h : EV F f 183 z183 17 [some (rf 11 (0)), some (rf 14 (6)), some (.inl (x3)), some (.inl (x4)), some (.inl (x5)), some (.inl (n2)), none, none, none, none] [.inl (Int32.ofInt 0)] σ (w, σ') := h
    replace h := ei_p h rfl rfl rfl rfl
    obtain ⟨f, g, h⟩ := h
    clear g
    replace h : EV F f 183 z183 44 [some (rf 11 (0)), some (rf 14 (6)), some (.inl (x3)), some (.inl (x4)), some (.inl (x5)), some (.inl (n2)), none, none, none, none] [.inl (Int32.ofInt 0)] σ (w, σ') := h
    exact j183_44 hs h
def z185 : mAl := ((yL_isStop, cL_isStop, 12, (some .boolean), { frames := 9, cells := 68, slots := 450, locals := 247 }, []), rw_L_isStop, false)
theorem z185_at : m_alF[185]? = some z185 := rfl
def J185_181 (τ : mS) (w : mX) (σ' : mS) : Prop := w = .inl (some (.inl (Int32.ofInt 0))) ∧ σ' = τ
set_option maxRecDepth 100000 in
theorem j185_181 {F f : Nat} {σ' τ : mS} {y0 : Option mV} {y1 : Option mV} {y2 : Option mV} {y3 : Option mV} {y4 : Option mV} {y5 : Option mV} {y6 : Option mV} {y7 : Option mV} {y8 : Option mV} {y9 : Option mV} {y10 : Option mV} {y11 : Option mV} {w : mX} (hsτ : HL τ) (h : EV F f 185 z185 181 [y0, y1, y2, y3, y4, y5, y6, y7, y8, y9, y10, y11] [] τ (w, σ')) : J185_181 τ w σ' := by
  unfold J185_181
  replace h := ei_p h rfl rfl rfl rfl
  obtain ⟨f, g, h⟩ := h
  clear g
  replace h : EV F f 185 z185 182 [y0, y1, y2, y3, y4, y5, y6, y7, y8, y9, y10, y11] [.inl (Int32.ofInt 0)] τ (w, σ') := h
  have e := ei_iret h rfl
  cases e
  exact ⟨rfl, rfl⟩
def P185 (σ : mS) (x5 : Int32) (x6 : Int32) (w : mX) (σ' : mS) : Prop := ∃ n2, n2 = (x5) - (x5) / (Int32.ofInt 5) * (Int32.ofInt 5) ∧ ∃ n6, n6 = ((x5) / (Int32.ofInt 5)) - ((x5) / (Int32.ofInt 5)) / (Int32.ofInt 3) * (Int32.ofInt 3) ∧ ∃ n10, n10 = ((x5) / (Int32.ofInt 20)) - ((x5) / (Int32.ofInt 20)) / (Int32.ofInt 2) * (Int32.ofInt 2) ∧ (0 ≤ (0 : Int) ∧ (0 : Int) < (σ.2.1 13 (17) : Int)) ∧ (((m_i σ 13 (17) (Int32.ofInt 0).toNatClampNeg).toInt < (60 : Int) ∧ ∃ n15, n15 = (Int32.ofInt 90) + ((x6) - (x6) / (Int32.ofInt 20) * (Int32.ofInt 20)) ∧ ∃ v21 σ22, gF σ σ22 ∧ HL σ22 ∧ P172 σ (Int32.ofInt 3) (n2) (n6) (n10) (n15) ((Int32.ofInt 1) + (((x6) / (Int32.ofInt 20)) - ((x6) / (Int32.ofInt 20)) / (Int32.ofInt 30) * (Int32.ofInt 30))) ((Int32.ofInt 90) + (((x6) / (Int32.ofInt 600)) - ((x6) / (Int32.ofInt 600)) / (Int32.ofInt 20) * (Int32.ofInt 20))) (Int32.ofInt 0) (.inl (some (.inr (.inl v21)))) σ22 ∧ ((∃ v25, P182 σ22 (n2) (.inl (some (.inl v25))) σ22 ∧ (((v25).toInt = (0 : Int) ∧ (0 ≤ (0 : Int) ∧ (0 : Int) < (σ22.2.1 13 (17) : Int)) ∧ ∃ σ32, σ32 = m_set σ22 13 (14) ((m_i σ22 13 (17) (Int32.ofInt 0).toNatClampNeg).toNatClampNeg) (.inl (n15)) ∧ (0 ≤ (m_i σ22 13 (17) (Int32.ofInt 0).toNatClampNeg).toInt ∧ (m_i σ22 13 (17) (Int32.ofInt 0).toNatClampNeg).toInt < (σ22.2.1 13 (14) : Int)) ∧ (0 ≤ (0 : Int) ∧ (0 : Int) < (σ32.2.1 13 (17) : Int)) ∧ ∃ σ36, σ36 = m_set σ32 13 (15) ((m_i σ32 13 (17) (Int32.ofInt 0).toNatClampNeg).toNatClampNeg) (.inl (((n2) + ((Int32.ofInt 10) * (n6))) + ((Int32.ofInt 100) * (n10)))) ∧ (0 ≤ (m_i σ32 13 (17) (Int32.ofInt 0).toNatClampNeg).toInt ∧ (m_i σ32 13 (17) (Int32.ofInt 0).toNatClampNeg).toInt < (σ32.2.1 13 (15) : Int)) ∧ (0 ≤ (0 : Int) ∧ (0 : Int) < (σ36.2.1 13 (17) : Int)) ∧ ∃ σ40, σ40 = m_set σ36 13 (17) ((Int32.ofInt 0).toNatClampNeg) (.inl ((m_i σ36 13 (17) (Int32.ofInt 0).toNatClampNeg) + (Int32.ofInt 1))) ∧ (0 ≤ (0 : Int) ∧ (0 : Int) < (σ36.2.1 13 (17) : Int)) ∧ (0 ≤ (0 : Int) ∧ (0 : Int) < (σ40.2.1 13 (17) : Int)) ∧ (((v21).toInt ≠ (((m_i σ40 13 (17) (Int32.ofInt 0).toNatClampNeg) - (Int32.ofInt 1)).toInt64).toInt ∧ J185_181 σ40 w σ') ∨ (¬ ((v21).toInt ≠ (((m_i σ40 13 (17) (Int32.ofInt 0).toNatClampNeg) - (Int32.ofInt 1)).toInt64).toInt) ∧ (0 ≤ (0 : Int) ∧ (0 : Int) < (σ40.2.1 13 (17) : Int)) ∧ ((∃ v45, P131 σ40 ((m_i σ40 13 (17) (Int32.ofInt 0).toNatClampNeg) - (Int32.ofInt 1)) (.inl (some (.inl v45))) σ40 ∧ (((v45).toInt ≠ (((Int32.ofInt 10) * ((Int32.ofInt 1) + (((x6) / (Int32.ofInt 20)) - ((x6) / (Int32.ofInt 20)) / (Int32.ofInt 30) * (Int32.ofInt 30)))) + (Int32.ofInt 2)).toInt ∧ J185_181 σ40 w σ') ∨ (¬ ((v45).toInt ≠ (((Int32.ofInt 10) * ((Int32.ofInt 1) + (((x6) / (Int32.ofInt 20)) - ((x6) / (Int32.ofInt 20)) / (Int32.ofInt 30) * (Int32.ofInt 30)))) + (Int32.ofInt 2)).toInt) ∧ w = .inl (some (.inl (Int32.ofInt 1))) ∧ σ' = σ40))) ∨ (∃ b, P131 σ40 ((m_i σ40 13 (17) (Int32.ofInt 0).toNatClampNeg) - (Int32.ofInt 1)) (.inr b) σ40 ∧ w = .inr b ∧ σ' = σ40))))) ∨ (¬ ((v25).toInt = (0 : Int)) ∧ (((v21).toInt ≠ (Int64.ofInt (-1000000000)).toInt ∧ w = .inl (some (.inl (Int32.ofInt 0))) ∧ σ' = σ22) ∨ (¬ ((v21).toInt ≠ (Int64.ofInt (-1000000000)).toInt) ∧ w = .inl (some (.inl (Int32.ofInt 1))) ∧ σ' = σ22))))) ∨ (∃ b, P182 σ22 (n2) (.inr b) σ22 ∧ w = .inr b ∧ σ' = σ22))) ∨ (¬ ((m_i σ 13 (17) (Int32.ofInt 0).toNatClampNeg).toInt < (60 : Int)) ∧ w = .inl (some (.inl (Int32.ofInt 1))) ∧ σ' = σ))
set_option maxRecDepth 100000 in
theorem x185 {σ σ' : mS} {x5 : Int32} {x6 : Int32} {w : mX} (hs : HL σ) (h : ev_run sm_all 185 [rf 11 (0), rf 13 (14), rf 13 (15), rf 13 (17), .inl (x5), .inl (x6)] σ (w) σ') : P185 σ x5 x6 w σ' := by
  unfold P185
  obtain ⟨F, f, h⟩ := ei_go h z185_at
  replace h : EV F f 185 z185 0 [some (rf 11 (0)), some (rf 13 (14)), some (rf 13 (15)), some (rf 13 (17)), some (.inl (x5)), some (.inl (x6)), none, none, none, none, none, none] [] σ (w, σ') := h
  replace h := ei_p h rfl rfl rfl rfl
  obtain ⟨f, g, h⟩ := h
  clear g
  replace h : EV F f 185 z185 2 [some (rf 11 (0)), some (rf 13 (14)), some (rf 13 (15)), some (rf 13 (17)), some (.inl (x5)), some (.inl (x6)), none, none, none, none, none, none] [.inl (x5)] σ (w, σ') := h
  replace h := ei_p h rfl rfl rfl rfl
  obtain ⟨f, g, h⟩ := h
  clear g
  replace h : EV F f 185 z185 3 [some (rf 11 (0)), some (rf 13 (14)), some (rf 13 (15)), some (rf 13 (17)), some (.inl (x5)), some (.inl (x6)), none, none, none, none, none, none] [.inl (Int32.ofInt 5), .inl (x5)] σ (w, σ') := h
  replace h := ei_irem h rfl
  obtain ⟨hd1, f, g, h⟩ := h
  clear g
  replace h : EV F f 185 z185 4 [some (rf 11 (0)), some (rf 13 (14)), some (rf 13 (15)), some (rf 13 (17)), some (.inl (x5)), some (.inl (x6)), none, none, none, none, none, none] [.inl ((x5) - (x5) / (Int32.ofInt 5) * (Int32.ofInt 5))] σ (w, σ') := h
  replace h := ei_p h rfl rfl rfl rfl
  obtain ⟨f, g, h⟩ := h
  clear g
  replace h : EV F f 185 z185 6 [some (rf 11 (0)), some (rf 13 (14)), some (rf 13 (15)), some (rf 13 (17)), some (.inl (x5)), some (.inl (x6)), some (.inl ((x5) - (x5) / (Int32.ofInt 5) * (Int32.ofInt 5))), none, none, none, none, none] [] σ (w, σ') := h
  obtain ⟨n2, e3⟩ : ∃ s, s = (x5) - (x5) / (Int32.ofInt 5) * (Int32.ofInt 5) := ⟨_, rfl⟩
  rw [← e3] at h
  refine ⟨n2, e3, ?_⟩
  replace h : EV F f 185 z185 6 [some (rf 11 (0)), some (rf 13 (14)), some (rf 13 (15)), some (rf 13 (17)), some (.inl (x5)), some (.inl (x6)), some (.inl (n2)), none, none, none, none, none] [] σ (w, σ') := h
  replace h := ei_p h rfl rfl rfl rfl
  obtain ⟨f, g, h⟩ := h
  clear g
  replace h : EV F f 185 z185 8 [some (rf 11 (0)), some (rf 13 (14)), some (rf 13 (15)), some (rf 13 (17)), some (.inl (x5)), some (.inl (x6)), some (.inl (n2)), none, none, none, none, none] [.inl (x5)] σ (w, σ') := h
  replace h := ei_p h rfl rfl rfl rfl
  obtain ⟨f, g, h⟩ := h
  clear g
  replace h : EV F f 185 z185 9 [some (rf 11 (0)), some (rf 13 (14)), some (rf 13 (15)), some (rf 13 (17)), some (.inl (x5)), some (.inl (x6)), some (.inl (n2)), none, none, none, none, none] [.inl (Int32.ofInt 5), .inl (x5)] σ (w, σ') := h
  replace h := ei_idiv h rfl
  obtain ⟨hd4, f, g, h⟩ := h
  clear g
  replace h : EV F f 185 z185 10 [some (rf 11 (0)), some (rf 13 (14)), some (rf 13 (15)), some (rf 13 (17)), some (.inl (x5)), some (.inl (x6)), some (.inl (n2)), none, none, none, none, none] [.inl ((x5) / (Int32.ofInt 5))] σ (w, σ') := h
  replace h := ei_p h rfl rfl rfl rfl
  obtain ⟨f, g, h⟩ := h
  clear g
  replace h : EV F f 185 z185 11 [some (rf 11 (0)), some (rf 13 (14)), some (rf 13 (15)), some (rf 13 (17)), some (.inl (x5)), some (.inl (x6)), some (.inl (n2)), none, none, none, none, none] [.inl (Int32.ofInt 3), .inl ((x5) / (Int32.ofInt 5))] σ (w, σ') := h
  replace h := ei_irem h rfl
  obtain ⟨hd5, f, g, h⟩ := h
  clear g
  replace h : EV F f 185 z185 12 [some (rf 11 (0)), some (rf 13 (14)), some (rf 13 (15)), some (rf 13 (17)), some (.inl (x5)), some (.inl (x6)), some (.inl (n2)), none, none, none, none, none] [.inl (((x5) / (Int32.ofInt 5)) - ((x5) / (Int32.ofInt 5)) / (Int32.ofInt 3) * (Int32.ofInt 3))] σ (w, σ') := h
  replace h := ei_p h rfl rfl rfl rfl
  obtain ⟨f, g, h⟩ := h
  clear g
  replace h : EV F f 185 z185 14 [some (rf 11 (0)), some (rf 13 (14)), some (rf 13 (15)), some (rf 13 (17)), some (.inl (x5)), some (.inl (x6)), some (.inl (n2)), some (.inl (((x5) / (Int32.ofInt 5)) - ((x5) / (Int32.ofInt 5)) / (Int32.ofInt 3) * (Int32.ofInt 3))), none, none, none, none] [] σ (w, σ') := h
  obtain ⟨n6, e7⟩ : ∃ s, s = ((x5) / (Int32.ofInt 5)) - ((x5) / (Int32.ofInt 5)) / (Int32.ofInt 3) * (Int32.ofInt 3) := ⟨_, rfl⟩
  rw [← e7] at h
  refine ⟨n6, e7, ?_⟩
  replace h : EV F f 185 z185 14 [some (rf 11 (0)), some (rf 13 (14)), some (rf 13 (15)), some (rf 13 (17)), some (.inl (x5)), some (.inl (x6)), some (.inl (n2)), some (.inl (n6)), none, none, none, none] [] σ (w, σ') := h
  replace h := ei_p h rfl rfl rfl rfl
  obtain ⟨f, g, h⟩ := h
  clear g
  replace h : EV F f 185 z185 16 [some (rf 11 (0)), some (rf 13 (14)), some (rf 13 (15)), some (rf 13 (17)), some (.inl (x5)), some (.inl (x6)), some (.inl (n2)), some (.inl (n6)), none, none, none, none] [.inl (x5)] σ (w, σ') := h
  replace h := ei_p h rfl rfl rfl rfl
  obtain ⟨f, g, h⟩ := h
  clear g
  replace h : EV F f 185 z185 18 [some (rf 11 (0)), some (rf 13 (14)), some (rf 13 (15)), some (rf 13 (17)), some (.inl (x5)), some (.inl (x6)), some (.inl (n2)), some (.inl (n6)), none, none, none, none] [.inl (Int32.ofInt 20), .inl (x5)] σ (w, σ') := h
  replace h := ei_idiv h rfl
  obtain ⟨hd8, f, g, h⟩ := h
  clear g
  replace h : EV F f 185 z185 19 [some (rf 11 (0)), some (rf 13 (14)), some (rf 13 (15)), some (rf 13 (17)), some (.inl (x5)), some (.inl (x6)), some (.inl (n2)), some (.inl (n6)), none, none, none, none] [.inl ((x5) / (Int32.ofInt 20))] σ (w, σ') := h
  replace h := ei_p h rfl rfl rfl rfl
  obtain ⟨f, g, h⟩ := h
  clear g
  replace h : EV F f 185 z185 20 [some (rf 11 (0)), some (rf 13 (14)), some (rf 13 (15)), some (rf 13 (17)), some (.inl (x5)), some (.inl (x6)), some (.inl (n2)), some (.inl (n6)), none, none, none, none] [.inl (Int32.ofInt 2), .inl ((x5) / (Int32.ofInt 20))] σ (w, σ') := h
  replace h := ei_irem h rfl
  obtain ⟨hd9, f, g, h⟩ := h
  clear g
  replace h : EV F f 185 z185 21 [some (rf 11 (0)), some (rf 13 (14)), some (rf 13 (15)), some (rf 13 (17)), some (.inl (x5)), some (.inl (x6)), some (.inl (n2)), some (.inl (n6)), none, none, none, none] [.inl (((x5) / (Int32.ofInt 20)) - ((x5) / (Int32.ofInt 20)) / (Int32.ofInt 2) * (Int32.ofInt 2))] σ (w, σ') := h
  replace h := ei_p h rfl rfl rfl rfl
  obtain ⟨f, g, h⟩ := h
  clear g
  replace h : EV F f 185 z185 23 [some (rf 11 (0)), some (rf 13 (14)), some (rf 13 (15)), some (rf 13 (17)), some (.inl (x5)), some (.inl (x6)), some (.inl (n2)), some (.inl (n6)), some (.inl (((x5) / (Int32.ofInt 20)) - ((x5) / (Int32.ofInt 20)) / (Int32.ofInt 2) * (Int32.ofInt 2))), none, none, none] [] σ (w, σ') := h
  obtain ⟨n10, e11⟩ : ∃ s, s = ((x5) / (Int32.ofInt 20)) - ((x5) / (Int32.ofInt 20)) / (Int32.ofInt 2) * (Int32.ofInt 2) := ⟨_, rfl⟩
  rw [← e11] at h
  refine ⟨n10, e11, ?_⟩
  replace h : EV F f 185 z185 23 [some (rf 11 (0)), some (rf 13 (14)), some (rf 13 (15)), some (rf 13 (17)), some (.inl (x5)), some (.inl (x6)), some (.inl (n2)), some (.inl (n6)), some (.inl (n10)), none, none, none] [] σ (w, σ') := h
  replace h := ei_p h rfl rfl rfl rfl
  obtain ⟨f, g, h⟩ := h
  clear g
  replace h : EV F f 185 z185 24 [some (rf 11 (0)), some (rf 13 (14)), some (rf 13 (15)), some (rf 13 (17)), some (.inl (x5)), some (.inl (x6)), some (.inl (n2)), some (.inl (n6)), some (.inl (n10)), none, none, none] [rf 13 (17)] σ (w, σ') := h
  replace h := ei_p h rfl rfl rfl rfl
  obtain ⟨f, g, h⟩ := h
  clear g
  replace h : EV F f 185 z185 25 [some (rf 11 (0)), some (rf 13 (14)), some (rf 13 (15)), some (rf 13 (17)), some (.inl (x5)), some (.inl (x6)), some (.inl (n2)), some (.inl (n6)), some (.inl (n10)), none, none, none] [.inl (Int32.ofInt 0), rf 13 (17)] σ (w, σ') := h
  replace h := ei_iald h rfl (fun _ => rfl)
  obtain ⟨vp12, f, g, h⟩ := h
  clear g
  replace h : EV F f 185 z185 26 [some (rf 11 (0)), some (rf 13 (14)), some (rf 13 (15)), some (rf 13 (17)), some (.inl (x5)), some (.inl (x6)), some (.inl (n2)), some (.inl (n6)), some (.inl (n10)), none, none, none] [.inl (m_i σ 13 (17) (Int32.ofInt 0).toNatClampNeg)] σ (w, σ') := h
  refine ⟨vp_2 vp12, ?_⟩
  replace h := ei_p h rfl rfl rfl rfl
  obtain ⟨f, g, h⟩ := h
  clear g
  replace h : EV F f 185 z185 28 [some (rf 11 (0)), some (rf 13 (14)), some (rf 13 (15)), some (rf 13 (17)), some (.inl (x5)), some (.inl (x6)), some (.inl (n2)), some (.inl (n6)), some (.inl (n10)), none, none, none] [.inl (Int32.ofInt 60), .inl (m_i σ 13 (17) (Int32.ofInt 0).toNatClampNeg)] σ (w, σ') := h
  replace h := ei_c h rfl rfl rfl
  rcases h with ⟨hp13, f, g, h⟩ | ⟨hp13, f, g, h⟩
  · skip
    replace hp13 : (m_i σ 13 (17) (Int32.ofInt 0).toNatClampNeg).toInt < (60 : Int) := ic_lt.mp hp13
    refine Or.inl ⟨hp13, ?_⟩
    clear g
    replace h : EV F f 185 z185 33 [some (rf 11 (0)), some (rf 13 (14)), some (rf 13 (15)), some (rf 13 (17)), some (.inl (x5)), some (.inl (x6)), some (.inl (n2)), some (.inl (n6)), some (.inl (n10)), none, none, none] [] σ (w, σ') := h
    replace h := ei_p h rfl rfl rfl rfl
    obtain ⟨f, g, h⟩ := h
    clear g
    replace h : EV F f 185 z185 35 [some (rf 11 (0)), some (rf 13 (14)), some (rf 13 (15)), some (rf 13 (17)), some (.inl (x5)), some (.inl (x6)), some (.inl (n2)), some (.inl (n6)), some (.inl (n10)), none, none, none] [.inl (Int32.ofInt 90)] σ (w, σ') := h
    replace h := ei_p h rfl rfl rfl rfl
    obtain ⟨f, g, h⟩ := h
    clear g
    replace h : EV F f 185 z185 37 [some (rf 11 (0)), some (rf 13 (14)), some (rf 13 (15)), some (rf 13 (17)), some (.inl (x5)), some (.inl (x6)), some (.inl (n2)), some (.inl (n6)), some (.inl (n10)), none, none, none] [.inl (x6), .inl (Int32.ofInt 90)] σ (w, σ') := h
    replace h := ei_p h rfl rfl rfl rfl
    obtain ⟨f, g, h⟩ := h
    clear g
    replace h : EV F f 185 z185 39 [some (rf 11 (0)), some (rf 13 (14)), some (rf 13 (15)), some (rf 13 (17)), some (.inl (x5)), some (.inl (x6)), some (.inl (n2)), some (.inl (n6)), some (.inl (n10)), none, none, none] [.inl (Int32.ofInt 20), .inl (x6), .inl (Int32.ofInt 90)] σ (w, σ') := h
    replace h := ei_irem h rfl
    obtain ⟨hd14, f, g, h⟩ := h
    clear g
    replace h : EV F f 185 z185 40 [some (rf 11 (0)), some (rf 13 (14)), some (rf 13 (15)), some (rf 13 (17)), some (.inl (x5)), some (.inl (x6)), some (.inl (n2)), some (.inl (n6)), some (.inl (n10)), none, none, none] [.inl ((x6) - (x6) / (Int32.ofInt 20) * (Int32.ofInt 20)), .inl (Int32.ofInt 90)] σ (w, σ') := h
    replace h := ei_p h rfl rfl rfl rfl
    obtain ⟨f, g, h⟩ := h
    clear g
    replace h : EV F f 185 z185 41 [some (rf 11 (0)), some (rf 13 (14)), some (rf 13 (15)), some (rf 13 (17)), some (.inl (x5)), some (.inl (x6)), some (.inl (n2)), some (.inl (n6)), some (.inl (n10)), none, none, none] [.inl ((Int32.ofInt 90) + ((x6) - (x6) / (Int32.ofInt 20) * (Int32.ofInt 20)))] σ (w, σ') := h
    replace h := ei_p h rfl rfl rfl rfl
    obtain ⟨f, g, h⟩ := h
    clear g
    replace h : EV F f 185 z185 43 [some (rf 11 (0)), some (rf 13 (14)), some (rf 13 (15)), some (rf 13 (17)), some (.inl (x5)), some (.inl (x6)), some (.inl (n2)), some (.inl (n6)), some (.inl (n10)), some (.inl ((Int32.ofInt 90) + ((x6) - (x6) / (Int32.ofInt 20) * (Int32.ofInt 20)))), none, none] [] σ (w, σ') := h
    obtain ⟨n15, e16⟩ : ∃ s, s = (Int32.ofInt 90) + ((x6) - (x6) / (Int32.ofInt 20) * (Int32.ofInt 20)) := ⟨_, rfl⟩
    rw [← e16] at h
    refine ⟨n15, e16, ?_⟩
    replace h : EV F f 185 z185 43 [some (rf 11 (0)), some (rf 13 (14)), some (rf 13 (15)), some (rf 13 (17)), some (.inl (x5)), some (.inl (x6)), some (.inl (n2)), some (.inl (n6)), some (.inl (n10)), some (.inl (n15)), none, none] [] σ (w, σ') := h
    replace h := ei_p h rfl rfl rfl rfl
    obtain ⟨f, g, h⟩ := h
    clear g
    replace h : EV F f 185 z185 44 [some (rf 11 (0)), some (rf 13 (14)), some (rf 13 (15)), some (rf 13 (17)), some (.inl (x5)), some (.inl (x6)), some (.inl (n2)), some (.inl (n6)), some (.inl (n10)), some (.inl (n15)), none, none] [rf 11 (0)] σ (w, σ') := h
    replace h := ei_p h rfl rfl rfl rfl
    obtain ⟨f, g, h⟩ := h
    clear g
    replace h : EV F f 185 z185 45 [some (rf 11 (0)), some (rf 13 (14)), some (rf 13 (15)), some (rf 13 (17)), some (.inl (x5)), some (.inl (x6)), some (.inl (n2)), some (.inl (n6)), some (.inl (n10)), some (.inl (n15)), none, none] [.inl (Int32.ofInt 3), rf 11 (0)] σ (w, σ') := h
    replace h := ei_p h rfl rfl rfl rfl
    obtain ⟨f, g, h⟩ := h
    clear g
    replace h : EV F f 185 z185 47 [some (rf 11 (0)), some (rf 13 (14)), some (rf 13 (15)), some (rf 13 (17)), some (.inl (x5)), some (.inl (x6)), some (.inl (n2)), some (.inl (n6)), some (.inl (n10)), some (.inl (n15)), none, none] [.inl (n2), .inl (Int32.ofInt 3), rf 11 (0)] σ (w, σ') := h
    replace h := ei_p h rfl rfl rfl rfl
    obtain ⟨f, g, h⟩ := h
    clear g
    replace h : EV F f 185 z185 49 [some (rf 11 (0)), some (rf 13 (14)), some (rf 13 (15)), some (rf 13 (17)), some (.inl (x5)), some (.inl (x6)), some (.inl (n2)), some (.inl (n6)), some (.inl (n10)), some (.inl (n15)), none, none] [.inl (n6), .inl (n2), .inl (Int32.ofInt 3), rf 11 (0)] σ (w, σ') := h
    replace h := ei_p h rfl rfl rfl rfl
    obtain ⟨f, g, h⟩ := h
    clear g
    replace h : EV F f 185 z185 51 [some (rf 11 (0)), some (rf 13 (14)), some (rf 13 (15)), some (rf 13 (17)), some (.inl (x5)), some (.inl (x6)), some (.inl (n2)), some (.inl (n6)), some (.inl (n10)), some (.inl (n15)), none, none] [.inl (n10), .inl (n6), .inl (n2), .inl (Int32.ofInt 3), rf 11 (0)] σ (w, σ') := h
    replace h := ei_p h rfl rfl rfl rfl
    obtain ⟨f, g, h⟩ := h
    clear g
    replace h : EV F f 185 z185 53 [some (rf 11 (0)), some (rf 13 (14)), some (rf 13 (15)), some (rf 13 (17)), some (.inl (x5)), some (.inl (x6)), some (.inl (n2)), some (.inl (n6)), some (.inl (n10)), some (.inl (n15)), none, none] [.inl (n15), .inl (n10), .inl (n6), .inl (n2), .inl (Int32.ofInt 3), rf 11 (0)] σ (w, σ') := h
    replace h := ei_p h rfl rfl rfl rfl
    obtain ⟨f, g, h⟩ := h
    clear g
    replace h : EV F f 185 z185 54 [some (rf 11 (0)), some (rf 13 (14)), some (rf 13 (15)), some (rf 13 (17)), some (.inl (x5)), some (.inl (x6)), some (.inl (n2)), some (.inl (n6)), some (.inl (n10)), some (.inl (n15)), none, none] [.inl (Int32.ofInt 1), .inl (n15), .inl (n10), .inl (n6), .inl (n2), .inl (Int32.ofInt 3), rf 11 (0)] σ (w, σ') := h
    replace h := ei_p h rfl rfl rfl rfl
    obtain ⟨f, g, h⟩ := h
    clear g
    replace h : EV F f 185 z185 56 [some (rf 11 (0)), some (rf 13 (14)), some (rf 13 (15)), some (rf 13 (17)), some (.inl (x5)), some (.inl (x6)), some (.inl (n2)), some (.inl (n6)), some (.inl (n10)), some (.inl (n15)), none, none] [.inl (x6), .inl (Int32.ofInt 1), .inl (n15), .inl (n10), .inl (n6), .inl (n2), .inl (Int32.ofInt 3), rf 11 (0)] σ (w, σ') := h
    replace h := ei_p h rfl rfl rfl rfl
    obtain ⟨f, g, h⟩ := h
    clear g
    replace h : EV F f 185 z185 58 [some (rf 11 (0)), some (rf 13 (14)), some (rf 13 (15)), some (rf 13 (17)), some (.inl (x5)), some (.inl (x6)), some (.inl (n2)), some (.inl (n6)), some (.inl (n10)), some (.inl (n15)), none, none] [.inl (Int32.ofInt 20), .inl (x6), .inl (Int32.ofInt 1), .inl (n15), .inl (n10), .inl (n6), .inl (n2), .inl (Int32.ofInt 3), rf 11 (0)] σ (w, σ') := h
    replace h := ei_idiv h rfl
    obtain ⟨hd17, f, g, h⟩ := h
    clear g
    replace h : EV F f 185 z185 59 [some (rf 11 (0)), some (rf 13 (14)), some (rf 13 (15)), some (rf 13 (17)), some (.inl (x5)), some (.inl (x6)), some (.inl (n2)), some (.inl (n6)), some (.inl (n10)), some (.inl (n15)), none, none] [.inl ((x6) / (Int32.ofInt 20)), .inl (Int32.ofInt 1), .inl (n15), .inl (n10), .inl (n6), .inl (n2), .inl (Int32.ofInt 3), rf 11 (0)] σ (w, σ') := h
    replace h := ei_p h rfl rfl rfl rfl
    obtain ⟨f, g, h⟩ := h
    clear g
    replace h : EV F f 185 z185 61 [some (rf 11 (0)), some (rf 13 (14)), some (rf 13 (15)), some (rf 13 (17)), some (.inl (x5)), some (.inl (x6)), some (.inl (n2)), some (.inl (n6)), some (.inl (n10)), some (.inl (n15)), none, none] [.inl (Int32.ofInt 30), .inl ((x6) / (Int32.ofInt 20)), .inl (Int32.ofInt 1), .inl (n15), .inl (n10), .inl (n6), .inl (n2), .inl (Int32.ofInt 3), rf 11 (0)] σ (w, σ') := h
    replace h := ei_irem h rfl
    obtain ⟨hd18, f, g, h⟩ := h
    clear g
    replace h : EV F f 185 z185 62 [some (rf 11 (0)), some (rf 13 (14)), some (rf 13 (15)), some (rf 13 (17)), some (.inl (x5)), some (.inl (x6)), some (.inl (n2)), some (.inl (n6)), some (.inl (n10)), some (.inl (n15)), none, none] [.inl (((x6) / (Int32.ofInt 20)) - ((x6) / (Int32.ofInt 20)) / (Int32.ofInt 30) * (Int32.ofInt 30)), .inl (Int32.ofInt 1), .inl (n15), .inl (n10), .inl (n6), .inl (n2), .inl (Int32.ofInt 3), rf 11 (0)] σ (w, σ') := h
    replace h := ei_p h rfl rfl rfl rfl
    obtain ⟨f, g, h⟩ := h
    clear g
    replace h : EV F f 185 z185 63 [some (rf 11 (0)), some (rf 13 (14)), some (rf 13 (15)), some (rf 13 (17)), some (.inl (x5)), some (.inl (x6)), some (.inl (n2)), some (.inl (n6)), some (.inl (n10)), some (.inl (n15)), none, none] [.inl ((Int32.ofInt 1) + (((x6) / (Int32.ofInt 20)) - ((x6) / (Int32.ofInt 20)) / (Int32.ofInt 30) * (Int32.ofInt 30))), .inl (n15), .inl (n10), .inl (n6), .inl (n2), .inl (Int32.ofInt 3), rf 11 (0)] σ (w, σ') := h
    replace h := ei_p h rfl rfl rfl rfl
    obtain ⟨f, g, h⟩ := h
    clear g
    replace h : EV F f 185 z185 65 [some (rf 11 (0)), some (rf 13 (14)), some (rf 13 (15)), some (rf 13 (17)), some (.inl (x5)), some (.inl (x6)), some (.inl (n2)), some (.inl (n6)), some (.inl (n10)), some (.inl (n15)), none, none] [.inl (Int32.ofInt 90), .inl ((Int32.ofInt 1) + (((x6) / (Int32.ofInt 20)) - ((x6) / (Int32.ofInt 20)) / (Int32.ofInt 30) * (Int32.ofInt 30))), .inl (n15), .inl (n10), .inl (n6), .inl (n2), .inl (Int32.ofInt 3), rf 11 (0)] σ (w, σ') := h
    replace h := ei_p h rfl rfl rfl rfl
    obtain ⟨f, g, h⟩ := h
    clear g
    replace h : EV F f 185 z185 67 [some (rf 11 (0)), some (rf 13 (14)), some (rf 13 (15)), some (rf 13 (17)), some (.inl (x5)), some (.inl (x6)), some (.inl (n2)), some (.inl (n6)), some (.inl (n10)), some (.inl (n15)), none, none] [.inl (x6), .inl (Int32.ofInt 90), .inl ((Int32.ofInt 1) + (((x6) / (Int32.ofInt 20)) - ((x6) / (Int32.ofInt 20)) / (Int32.ofInt 30) * (Int32.ofInt 30))), .inl (n15), .inl (n10), .inl (n6), .inl (n2), .inl (Int32.ofInt 3), rf 11 (0)] σ (w, σ') := h
    replace h := ei_p h rfl rfl rfl rfl
    obtain ⟨f, g, h⟩ := h
    clear g
    replace h : EV F f 185 z185 70 [some (rf 11 (0)), some (rf 13 (14)), some (rf 13 (15)), some (rf 13 (17)), some (.inl (x5)), some (.inl (x6)), some (.inl (n2)), some (.inl (n6)), some (.inl (n10)), some (.inl (n15)), none, none] [.inl (Int32.ofInt 600), .inl (x6), .inl (Int32.ofInt 90), .inl ((Int32.ofInt 1) + (((x6) / (Int32.ofInt 20)) - ((x6) / (Int32.ofInt 20)) / (Int32.ofInt 30) * (Int32.ofInt 30))), .inl (n15), .inl (n10), .inl (n6), .inl (n2), .inl (Int32.ofInt 3), rf 11 (0)] σ (w, σ') := h
    replace h := ei_idiv h rfl
    obtain ⟨hd19, f, g, h⟩ := h
    clear g
    replace h : EV F f 185 z185 71 [some (rf 11 (0)), some (rf 13 (14)), some (rf 13 (15)), some (rf 13 (17)), some (.inl (x5)), some (.inl (x6)), some (.inl (n2)), some (.inl (n6)), some (.inl (n10)), some (.inl (n15)), none, none] [.inl ((x6) / (Int32.ofInt 600)), .inl (Int32.ofInt 90), .inl ((Int32.ofInt 1) + (((x6) / (Int32.ofInt 20)) - ((x6) / (Int32.ofInt 20)) / (Int32.ofInt 30) * (Int32.ofInt 30))), .inl (n15), .inl (n10), .inl (n6), .inl (n2), .inl (Int32.ofInt 3), rf 11 (0)] σ (w, σ') := h
    replace h := ei_p h rfl rfl rfl rfl
    obtain ⟨f, g, h⟩ := h
    clear g
    replace h : EV F f 185 z185 73 [some (rf 11 (0)), some (rf 13 (14)), some (rf 13 (15)), some (rf 13 (17)), some (.inl (x5)), some (.inl (x6)), some (.inl (n2)), some (.inl (n6)), some (.inl (n10)), some (.inl (n15)), none, none] [.inl (Int32.ofInt 20), .inl ((x6) / (Int32.ofInt 600)), .inl (Int32.ofInt 90), .inl ((Int32.ofInt 1) + (((x6) / (Int32.ofInt 20)) - ((x6) / (Int32.ofInt 20)) / (Int32.ofInt 30) * (Int32.ofInt 30))), .inl (n15), .inl (n10), .inl (n6), .inl (n2), .inl (Int32.ofInt 3), rf 11 (0)] σ (w, σ') := h
    replace h := ei_irem h rfl
    obtain ⟨hd20, f, g, h⟩ := h
    clear g
    replace h : EV F f 185 z185 74 [some (rf 11 (0)), some (rf 13 (14)), some (rf 13 (15)), some (rf 13 (17)), some (.inl (x5)), some (.inl (x6)), some (.inl (n2)), some (.inl (n6)), some (.inl (n10)), some (.inl (n15)), none, none] [.inl (((x6) / (Int32.ofInt 600)) - ((x6) / (Int32.ofInt 600)) / (Int32.ofInt 20) * (Int32.ofInt 20)), .inl (Int32.ofInt 90), .inl ((Int32.ofInt 1) + (((x6) / (Int32.ofInt 20)) - ((x6) / (Int32.ofInt 20)) / (Int32.ofInt 30) * (Int32.ofInt 30))), .inl (n15), .inl (n10), .inl (n6), .inl (n2), .inl (Int32.ofInt 3), rf 11 (0)] σ (w, σ') := h
    replace h := ei_p h rfl rfl rfl rfl
    obtain ⟨f, g, h⟩ := h
    clear g
    replace h : EV F f 185 z185 75 [some (rf 11 (0)), some (rf 13 (14)), some (rf 13 (15)), some (rf 13 (17)), some (.inl (x5)), some (.inl (x6)), some (.inl (n2)), some (.inl (n6)), some (.inl (n10)), some (.inl (n15)), none, none] [.inl ((Int32.ofInt 90) + (((x6) / (Int32.ofInt 600)) - ((x6) / (Int32.ofInt 600)) / (Int32.ofInt 20) * (Int32.ofInt 20))), .inl ((Int32.ofInt 1) + (((x6) / (Int32.ofInt 20)) - ((x6) / (Int32.ofInt 20)) / (Int32.ofInt 30) * (Int32.ofInt 30))), .inl (n15), .inl (n10), .inl (n6), .inl (n2), .inl (Int32.ofInt 3), rf 11 (0)] σ (w, σ') := h
    replace h := ei_p h rfl rfl rfl rfl
    obtain ⟨f, g, h⟩ := h
    clear g
    replace h : EV F f 185 z185 76 [some (rf 11 (0)), some (rf 13 (14)), some (rf 13 (15)), some (rf 13 (17)), some (.inl (x5)), some (.inl (x6)), some (.inl (n2)), some (.inl (n6)), some (.inl (n10)), some (.inl (n15)), none, none] [.inl (Int32.ofInt 0), .inl ((Int32.ofInt 90) + (((x6) / (Int32.ofInt 600)) - ((x6) / (Int32.ofInt 600)) / (Int32.ofInt 20) * (Int32.ofInt 20))), .inl ((Int32.ofInt 1) + (((x6) / (Int32.ofInt 20)) - ((x6) / (Int32.ofInt 20)) / (Int32.ofInt 30) * (Int32.ofInt 30))), .inl (n15), .inl (n10), .inl (n6), .inl (n2), .inl (Int32.ofInt 3), rf 11 (0)] σ (w, σ') := h
    replace h := bx_L (ei_s (as := [.inl (Int32.ofInt 0), .inl ((Int32.ofInt 90) + (((x6) / (Int32.ofInt 600)) - ((x6) / (Int32.ofInt 600)) / (Int32.ofInt 20) * (Int32.ofInt 20))), .inl ((Int32.ofInt 1) + (((x6) / (Int32.ofInt 20)) - ((x6) / (Int32.ofInt 20)) / (Int32.ofInt 30) * (Int32.ofInt 30))), .inl (n15), .inl (n10), .inl (n6), .inl (n2), .inl (Int32.ofInt 3), rf 11 (0)]) h rfl (Nat.le_of_ble_eq_true rfl) rfl rfl) z172_at rfl
    rcases h with ⟨v21, σ22, r23, f, g, h⟩ | ⟨b, σ22, r23, e⟩
    rotate_left
    · exact (nt172 (x172 hs r23)).elim
    clear g
    have p24 := x172 hs r23
    have hsσ22 : HL σ22 := hl172 p24
    refine ⟨v21, σ22, gF_r r23 rfl hs, hsσ22, p24, ?_⟩
    replace h : EV F f 185 z185 79 [some (rf 11 (0)), some (rf 13 (14)), some (rf 13 (15)), some (rf 13 (17)), some (.inl (x5)), some (.inl (x6)), some (.inl (n2)), some (.inl (n6)), some (.inl (n10)), some (.inl (n15)), none, none] [.inr (.inl (v21))] σ22 (w, σ') := h
    replace h := ei_p h rfl rfl rfl rfl
    obtain ⟨f, g, h⟩ := h
    clear g
    replace h : EV F f 185 z185 81 [some (rf 11 (0)), some (rf 13 (14)), some (rf 13 (15)), some (rf 13 (17)), some (.inl (x5)), some (.inl (x6)), some (.inl (n2)), some (.inl (n6)), some (.inl (n10)), some (.inl (n15)), some (.inr (.inl (v21))), none] [] σ22 (w, σ') := h
    replace h := ei_p h rfl rfl rfl rfl
    obtain ⟨f, g, h⟩ := h
    clear g
    replace h : EV F f 185 z185 82 [some (rf 11 (0)), some (rf 13 (14)), some (rf 13 (15)), some (rf 13 (17)), some (.inl (x5)), some (.inl (x6)), some (.inl (n2)), some (.inl (n6)), some (.inl (n10)), some (.inl (n15)), some (.inr (.inl (v21))), none] [rf 11 (0)] σ22 (w, σ') := h
    replace h := ei_p h rfl rfl rfl rfl
    obtain ⟨f, g, h⟩ := h
    clear g
    replace h : EV F f 185 z185 84 [some (rf 11 (0)), some (rf 13 (14)), some (rf 13 (15)), some (rf 13 (17)), some (.inl (x5)), some (.inl (x6)), some (.inl (n2)), some (.inl (n6)), some (.inl (n10)), some (.inl (n15)), some (.inr (.inl (v21))), none] [.inl (n2), rf 11 (0)] σ22 (w, σ') := h
    replace h := bx_I (ei_s (as := [.inl (n2), rf 11 (0)]) h rfl (Nat.le_of_ble_eq_true rfl) rfl rfl) z182_at (Or.inr rfl)
    rcases h with ⟨v25, σ26, r27, f, g, h⟩ | ⟨b, σ26, r27, e⟩
    · skip
      have er27 := ro2_run rfl r27
      rw [er27] at h r27
      clear g
      have p28 := x182 hsσ22 r27
      refine Or.inl ⟨v25, p28, ?_⟩
      replace h : EV F f 185 z185 87 [some (rf 11 (0)), some (rf 13 (14)), some (rf 13 (15)), some (rf 13 (17)), some (.inl (x5)), some (.inl (x6)), some (.inl (n2)), some (.inl (n6)), some (.inl (n10)), some (.inl (n15)), some (.inr (.inl (v21))), none] [.inl (v25)] σ22 (w, σ') := h
      replace h := ei_c h rfl rfl rfl
      rcases h with ⟨hp29, f, g, h⟩ | ⟨hp29, f, g, h⟩
      · skip
        replace hp29 : (v25).toInt = (0 : Int) := ic_eq.mp hp29
        refine Or.inl ⟨hp29, ?_⟩
        clear g
        replace h : EV F f 185 z185 105 [some (rf 11 (0)), some (rf 13 (14)), some (rf 13 (15)), some (rf 13 (17)), some (.inl (x5)), some (.inl (x6)), some (.inl (n2)), some (.inl (n6)), some (.inl (n10)), some (.inl (n15)), some (.inr (.inl (v21))), none] [] σ22 (w, σ') := h
        replace h := ei_p h rfl rfl rfl rfl
        obtain ⟨f, g, h⟩ := h
        clear g
        replace h : EV F f 185 z185 106 [some (rf 11 (0)), some (rf 13 (14)), some (rf 13 (15)), some (rf 13 (17)), some (.inl (x5)), some (.inl (x6)), some (.inl (n2)), some (.inl (n6)), some (.inl (n10)), some (.inl (n15)), some (.inr (.inl (v21))), none] [rf 13 (14)] σ22 (w, σ') := h
        replace h := ei_p h rfl rfl rfl rfl
        obtain ⟨f, g, h⟩ := h
        clear g
        replace h : EV F f 185 z185 107 [some (rf 11 (0)), some (rf 13 (14)), some (rf 13 (15)), some (rf 13 (17)), some (.inl (x5)), some (.inl (x6)), some (.inl (n2)), some (.inl (n6)), some (.inl (n10)), some (.inl (n15)), some (.inr (.inl (v21))), none] [rf 13 (17), rf 13 (14)] σ22 (w, σ') := h
        replace h := ei_p h rfl rfl rfl rfl
        obtain ⟨f, g, h⟩ := h
        clear g
        replace h : EV F f 185 z185 108 [some (rf 11 (0)), some (rf 13 (14)), some (rf 13 (15)), some (rf 13 (17)), some (.inl (x5)), some (.inl (x6)), some (.inl (n2)), some (.inl (n6)), some (.inl (n10)), some (.inl (n15)), some (.inr (.inl (v21))), none] [.inl (Int32.ofInt 0), rf 13 (17), rf 13 (14)] σ22 (w, σ') := h
        replace h := ei_iald h rfl (fun _ => rfl)
        obtain ⟨vp30, f, g, h⟩ := h
        clear g
        replace h : EV F f 185 z185 109 [some (rf 11 (0)), some (rf 13 (14)), some (rf 13 (15)), some (rf 13 (17)), some (.inl (x5)), some (.inl (x6)), some (.inl (n2)), some (.inl (n6)), some (.inl (n10)), some (.inl (n15)), some (.inr (.inl (v21))), none] [.inl (m_i σ22 13 (17) (Int32.ofInt 0).toNatClampNeg), rf 13 (14)] σ22 (w, σ') := h
        refine ⟨vp_2 vp30, ?_⟩
        replace h := ei_p h rfl rfl rfl rfl
        obtain ⟨f, g, h⟩ := h
        clear g
        replace h : EV F f 185 z185 111 [some (rf 11 (0)), some (rf 13 (14)), some (rf 13 (15)), some (rf 13 (17)), some (.inl (x5)), some (.inl (x6)), some (.inl (n2)), some (.inl (n6)), some (.inl (n10)), some (.inl (n15)), some (.inr (.inl (v21))), none] [.inl (n15), .inl (m_i σ22 13 (17) (Int32.ofInt 0).toNatClampNeg), rf 13 (14)] σ22 (w, σ') := h
        replace h := ei_iast h rfl
        obtain ⟨ht31, f, g, h⟩ := h
        clear g
        obtain ⟨σ32, e33⟩ : ∃ s, s = m_set σ22 13 (14) ((m_i σ22 13 (17) (Int32.ofInt 0).toNatClampNeg).toNatClampNeg) (.inl (n15)) := ⟨_, rfl⟩
        rw [← e33] at h
        have hsσ32 : HL σ32 := by rw [e33]; exact HL_set hsσ22 rfl
        refine ⟨σ32, e33, ?_⟩
        replace h : EV F f 185 z185 112 [some (rf 11 (0)), some (rf 13 (14)), some (rf 13 (15)), some (rf 13 (17)), some (.inl (x5)), some (.inl (x6)), some (.inl (n2)), some (.inl (n6)), some (.inl (n10)), some (.inl (n15)), some (.inr (.inl (v21))), none] [] σ32 (w, σ') := h
        refine ⟨vp_2 ht31, ?_⟩
        replace h := ei_p h rfl rfl rfl rfl
        obtain ⟨f, g, h⟩ := h
        clear g
        replace h : EV F f 185 z185 113 [some (rf 11 (0)), some (rf 13 (14)), some (rf 13 (15)), some (rf 13 (17)), some (.inl (x5)), some (.inl (x6)), some (.inl (n2)), some (.inl (n6)), some (.inl (n10)), some (.inl (n15)), some (.inr (.inl (v21))), none] [rf 13 (15)] σ32 (w, σ') := h
        replace h := ei_p h rfl rfl rfl rfl
        obtain ⟨f, g, h⟩ := h
        clear g
        replace h : EV F f 185 z185 114 [some (rf 11 (0)), some (rf 13 (14)), some (rf 13 (15)), some (rf 13 (17)), some (.inl (x5)), some (.inl (x6)), some (.inl (n2)), some (.inl (n6)), some (.inl (n10)), some (.inl (n15)), some (.inr (.inl (v21))), none] [rf 13 (17), rf 13 (15)] σ32 (w, σ') := h
        replace h := ei_p h rfl rfl rfl rfl
        obtain ⟨f, g, h⟩ := h
        clear g
        replace h : EV F f 185 z185 115 [some (rf 11 (0)), some (rf 13 (14)), some (rf 13 (15)), some (rf 13 (17)), some (.inl (x5)), some (.inl (x6)), some (.inl (n2)), some (.inl (n6)), some (.inl (n10)), some (.inl (n15)), some (.inr (.inl (v21))), none] [.inl (Int32.ofInt 0), rf 13 (17), rf 13 (15)] σ32 (w, σ') := h
        replace h := ei_iald h rfl (fun _ => rfl)
        obtain ⟨vp34, f, g, h⟩ := h
        clear g
        replace h : EV F f 185 z185 116 [some (rf 11 (0)), some (rf 13 (14)), some (rf 13 (15)), some (rf 13 (17)), some (.inl (x5)), some (.inl (x6)), some (.inl (n2)), some (.inl (n6)), some (.inl (n10)), some (.inl (n15)), some (.inr (.inl (v21))), none] [.inl (m_i σ32 13 (17) (Int32.ofInt 0).toNatClampNeg), rf 13 (15)] σ32 (w, σ') := h
        refine ⟨vp_2 vp34, ?_⟩
        replace h := ei_p h rfl rfl rfl rfl
        obtain ⟨f, g, h⟩ := h
        clear g
        replace h : EV F f 185 z185 118 [some (rf 11 (0)), some (rf 13 (14)), some (rf 13 (15)), some (rf 13 (17)), some (.inl (x5)), some (.inl (x6)), some (.inl (n2)), some (.inl (n6)), some (.inl (n10)), some (.inl (n15)), some (.inr (.inl (v21))), none] [.inl (n2), .inl (m_i σ32 13 (17) (Int32.ofInt 0).toNatClampNeg), rf 13 (15)] σ32 (w, σ') := h
        replace h := ei_p h rfl rfl rfl rfl
        obtain ⟨f, g, h⟩ := h
        clear g
        replace h : EV F f 185 z185 120 [some (rf 11 (0)), some (rf 13 (14)), some (rf 13 (15)), some (rf 13 (17)), some (.inl (x5)), some (.inl (x6)), some (.inl (n2)), some (.inl (n6)), some (.inl (n10)), some (.inl (n15)), some (.inr (.inl (v21))), none] [.inl (Int32.ofInt 10), .inl (n2), .inl (m_i σ32 13 (17) (Int32.ofInt 0).toNatClampNeg), rf 13 (15)] σ32 (w, σ') := h
        replace h := ei_p h rfl rfl rfl rfl
        obtain ⟨f, g, h⟩ := h
        clear g
        replace h : EV F f 185 z185 122 [some (rf 11 (0)), some (rf 13 (14)), some (rf 13 (15)), some (rf 13 (17)), some (.inl (x5)), some (.inl (x6)), some (.inl (n2)), some (.inl (n6)), some (.inl (n10)), some (.inl (n15)), some (.inr (.inl (v21))), none] [.inl (n6), .inl (Int32.ofInt 10), .inl (n2), .inl (m_i σ32 13 (17) (Int32.ofInt 0).toNatClampNeg), rf 13 (15)] σ32 (w, σ') := h
        replace h := ei_p h rfl rfl rfl rfl
        obtain ⟨f, g, h⟩ := h
        clear g
        replace h : EV F f 185 z185 123 [some (rf 11 (0)), some (rf 13 (14)), some (rf 13 (15)), some (rf 13 (17)), some (.inl (x5)), some (.inl (x6)), some (.inl (n2)), some (.inl (n6)), some (.inl (n10)), some (.inl (n15)), some (.inr (.inl (v21))), none] [.inl ((Int32.ofInt 10) * (n6)), .inl (n2), .inl (m_i σ32 13 (17) (Int32.ofInt 0).toNatClampNeg), rf 13 (15)] σ32 (w, σ') := h
        replace h := ei_p h rfl rfl rfl rfl
        obtain ⟨f, g, h⟩ := h
        clear g
        replace h : EV F f 185 z185 124 [some (rf 11 (0)), some (rf 13 (14)), some (rf 13 (15)), some (rf 13 (17)), some (.inl (x5)), some (.inl (x6)), some (.inl (n2)), some (.inl (n6)), some (.inl (n10)), some (.inl (n15)), some (.inr (.inl (v21))), none] [.inl ((n2) + ((Int32.ofInt 10) * (n6))), .inl (m_i σ32 13 (17) (Int32.ofInt 0).toNatClampNeg), rf 13 (15)] σ32 (w, σ') := h
        replace h := ei_p h rfl rfl rfl rfl
        obtain ⟨f, g, h⟩ := h
        clear g
        replace h : EV F f 185 z185 126 [some (rf 11 (0)), some (rf 13 (14)), some (rf 13 (15)), some (rf 13 (17)), some (.inl (x5)), some (.inl (x6)), some (.inl (n2)), some (.inl (n6)), some (.inl (n10)), some (.inl (n15)), some (.inr (.inl (v21))), none] [.inl (Int32.ofInt 100), .inl ((n2) + ((Int32.ofInt 10) * (n6))), .inl (m_i σ32 13 (17) (Int32.ofInt 0).toNatClampNeg), rf 13 (15)] σ32 (w, σ') := h
        replace h := ei_p h rfl rfl rfl rfl
        obtain ⟨f, g, h⟩ := h
        clear g
        replace h : EV F f 185 z185 128 [some (rf 11 (0)), some (rf 13 (14)), some (rf 13 (15)), some (rf 13 (17)), some (.inl (x5)), some (.inl (x6)), some (.inl (n2)), some (.inl (n6)), some (.inl (n10)), some (.inl (n15)), some (.inr (.inl (v21))), none] [.inl (n10), .inl (Int32.ofInt 100), .inl ((n2) + ((Int32.ofInt 10) * (n6))), .inl (m_i σ32 13 (17) (Int32.ofInt 0).toNatClampNeg), rf 13 (15)] σ32 (w, σ') := h
        replace h := ei_p h rfl rfl rfl rfl
        obtain ⟨f, g, h⟩ := h
        clear g
        replace h : EV F f 185 z185 129 [some (rf 11 (0)), some (rf 13 (14)), some (rf 13 (15)), some (rf 13 (17)), some (.inl (x5)), some (.inl (x6)), some (.inl (n2)), some (.inl (n6)), some (.inl (n10)), some (.inl (n15)), some (.inr (.inl (v21))), none] [.inl ((Int32.ofInt 100) * (n10)), .inl ((n2) + ((Int32.ofInt 10) * (n6))), .inl (m_i σ32 13 (17) (Int32.ofInt 0).toNatClampNeg), rf 13 (15)] σ32 (w, σ') := h
        replace h := ei_p h rfl rfl rfl rfl
        obtain ⟨f, g, h⟩ := h
        clear g
        replace h : EV F f 185 z185 130 [some (rf 11 (0)), some (rf 13 (14)), some (rf 13 (15)), some (rf 13 (17)), some (.inl (x5)), some (.inl (x6)), some (.inl (n2)), some (.inl (n6)), some (.inl (n10)), some (.inl (n15)), some (.inr (.inl (v21))), none] [.inl (((n2) + ((Int32.ofInt 10) * (n6))) + ((Int32.ofInt 100) * (n10))), .inl (m_i σ32 13 (17) (Int32.ofInt 0).toNatClampNeg), rf 13 (15)] σ32 (w, σ') := h
        replace h := ei_iast h rfl
        obtain ⟨ht35, f, g, h⟩ := h
        clear g
        obtain ⟨σ36, e37⟩ : ∃ s, s = m_set σ32 13 (15) ((m_i σ32 13 (17) (Int32.ofInt 0).toNatClampNeg).toNatClampNeg) (.inl (((n2) + ((Int32.ofInt 10) * (n6))) + ((Int32.ofInt 100) * (n10)))) := ⟨_, rfl⟩
        rw [← e37] at h
        have hsσ36 : HL σ36 := by rw [e37]; exact HL_set hsσ32 rfl
        refine ⟨σ36, e37, ?_⟩
        replace h : EV F f 185 z185 131 [some (rf 11 (0)), some (rf 13 (14)), some (rf 13 (15)), some (rf 13 (17)), some (.inl (x5)), some (.inl (x6)), some (.inl (n2)), some (.inl (n6)), some (.inl (n10)), some (.inl (n15)), some (.inr (.inl (v21))), none] [] σ36 (w, σ') := h
        refine ⟨vp_2 ht35, ?_⟩
        replace h := ei_p h rfl rfl rfl rfl
        obtain ⟨f, g, h⟩ := h
        clear g
        replace h : EV F f 185 z185 132 [some (rf 11 (0)), some (rf 13 (14)), some (rf 13 (15)), some (rf 13 (17)), some (.inl (x5)), some (.inl (x6)), some (.inl (n2)), some (.inl (n6)), some (.inl (n10)), some (.inl (n15)), some (.inr (.inl (v21))), none] [rf 13 (17)] σ36 (w, σ') := h
        replace h := ei_p h rfl rfl rfl rfl
        obtain ⟨f, g, h⟩ := h
        clear g
        replace h : EV F f 185 z185 133 [some (rf 11 (0)), some (rf 13 (14)), some (rf 13 (15)), some (rf 13 (17)), some (.inl (x5)), some (.inl (x6)), some (.inl (n2)), some (.inl (n6)), some (.inl (n10)), some (.inl (n15)), some (.inr (.inl (v21))), none] [.inl (Int32.ofInt 0), rf 13 (17)] σ36 (w, σ') := h
        replace h := ei_p h rfl rfl rfl rfl
        obtain ⟨f, g, h⟩ := h
        clear g
        replace h : EV F f 185 z185 134 [some (rf 11 (0)), some (rf 13 (14)), some (rf 13 (15)), some (rf 13 (17)), some (.inl (x5)), some (.inl (x6)), some (.inl (n2)), some (.inl (n6)), some (.inl (n10)), some (.inl (n15)), some (.inr (.inl (v21))), none] [.inl (Int32.ofInt 0), rf 13 (17), .inl (Int32.ofInt 0), rf 13 (17)] σ36 (w, σ') := h
        replace h := ei_iald h rfl (fun _ => rfl)
        obtain ⟨vp38, f, g, h⟩ := h
        clear g
        replace h : EV F f 185 z185 135 [some (rf 11 (0)), some (rf 13 (14)), some (rf 13 (15)), some (rf 13 (17)), some (.inl (x5)), some (.inl (x6)), some (.inl (n2)), some (.inl (n6)), some (.inl (n10)), some (.inl (n15)), some (.inr (.inl (v21))), none] [.inl (m_i σ36 13 (17) (Int32.ofInt 0).toNatClampNeg), .inl (Int32.ofInt 0), rf 13 (17)] σ36 (w, σ') := h
        refine ⟨vp_2 vp38, ?_⟩
        replace h := ei_p h rfl rfl rfl rfl
        obtain ⟨f, g, h⟩ := h
        clear g
        replace h : EV F f 185 z185 136 [some (rf 11 (0)), some (rf 13 (14)), some (rf 13 (15)), some (rf 13 (17)), some (.inl (x5)), some (.inl (x6)), some (.inl (n2)), some (.inl (n6)), some (.inl (n10)), some (.inl (n15)), some (.inr (.inl (v21))), none] [.inl (Int32.ofInt 1), .inl (m_i σ36 13 (17) (Int32.ofInt 0).toNatClampNeg), .inl (Int32.ofInt 0), rf 13 (17)] σ36 (w, σ') := h
        replace h := ei_p h rfl rfl rfl rfl
        obtain ⟨f, g, h⟩ := h
        clear g
        replace h : EV F f 185 z185 137 [some (rf 11 (0)), some (rf 13 (14)), some (rf 13 (15)), some (rf 13 (17)), some (.inl (x5)), some (.inl (x6)), some (.inl (n2)), some (.inl (n6)), some (.inl (n10)), some (.inl (n15)), some (.inr (.inl (v21))), none] [.inl ((m_i σ36 13 (17) (Int32.ofInt 0).toNatClampNeg) + (Int32.ofInt 1)), .inl (Int32.ofInt 0), rf 13 (17)] σ36 (w, σ') := h
        replace h := ei_iast h rfl
        obtain ⟨ht39, f, g, h⟩ := h
        clear g
        obtain ⟨σ40, e41⟩ : ∃ s, s = m_set σ36 13 (17) ((Int32.ofInt 0).toNatClampNeg) (.inl ((m_i σ36 13 (17) (Int32.ofInt 0).toNatClampNeg) + (Int32.ofInt 1))) := ⟨_, rfl⟩
        rw [← e41] at h
        have hsσ40 : HL σ40 := by rw [e41]; exact HL_set hsσ36 rfl
        refine ⟨σ40, e41, ?_⟩
        replace h : EV F f 185 z185 138 [some (rf 11 (0)), some (rf 13 (14)), some (rf 13 (15)), some (rf 13 (17)), some (.inl (x5)), some (.inl (x6)), some (.inl (n2)), some (.inl (n6)), some (.inl (n10)), some (.inl (n15)), some (.inr (.inl (v21))), none] [] σ40 (w, σ') := h
        refine ⟨vp_2 ht39, ?_⟩
        replace h := ei_p h rfl rfl rfl rfl
        obtain ⟨f, g, h⟩ := h
        clear g
        replace h : EV F f 185 z185 140 [some (rf 11 (0)), some (rf 13 (14)), some (rf 13 (15)), some (rf 13 (17)), some (.inl (x5)), some (.inl (x6)), some (.inl (n2)), some (.inl (n6)), some (.inl (n10)), some (.inl (n15)), some (.inr (.inl (v21))), none] [.inr (.inl (v21))] σ40 (w, σ') := h
        replace h := ei_p h rfl rfl rfl rfl
        obtain ⟨f, g, h⟩ := h
        clear g
        replace h : EV F f 185 z185 141 [some (rf 11 (0)), some (rf 13 (14)), some (rf 13 (15)), some (rf 13 (17)), some (.inl (x5)), some (.inl (x6)), some (.inl (n2)), some (.inl (n6)), some (.inl (n10)), some (.inl (n15)), some (.inr (.inl (v21))), none] [rf 13 (17), .inr (.inl (v21))] σ40 (w, σ') := h
        replace h := ei_p h rfl rfl rfl rfl
        obtain ⟨f, g, h⟩ := h
        clear g
        replace h : EV F f 185 z185 142 [some (rf 11 (0)), some (rf 13 (14)), some (rf 13 (15)), some (rf 13 (17)), some (.inl (x5)), some (.inl (x6)), some (.inl (n2)), some (.inl (n6)), some (.inl (n10)), some (.inl (n15)), some (.inr (.inl (v21))), none] [.inl (Int32.ofInt 0), rf 13 (17), .inr (.inl (v21))] σ40 (w, σ') := h
        replace h := ei_iald h rfl (fun _ => rfl)
        obtain ⟨vp42, f, g, h⟩ := h
        clear g
        replace h : EV F f 185 z185 143 [some (rf 11 (0)), some (rf 13 (14)), some (rf 13 (15)), some (rf 13 (17)), some (.inl (x5)), some (.inl (x6)), some (.inl (n2)), some (.inl (n6)), some (.inl (n10)), some (.inl (n15)), some (.inr (.inl (v21))), none] [.inl (m_i σ40 13 (17) (Int32.ofInt 0).toNatClampNeg), .inr (.inl (v21))] σ40 (w, σ') := h
        refine ⟨vp_2 vp42, ?_⟩
        replace h := ei_p h rfl rfl rfl rfl
        obtain ⟨f, g, h⟩ := h
        clear g
        replace h : EV F f 185 z185 144 [some (rf 11 (0)), some (rf 13 (14)), some (rf 13 (15)), some (rf 13 (17)), some (.inl (x5)), some (.inl (x6)), some (.inl (n2)), some (.inl (n6)), some (.inl (n10)), some (.inl (n15)), some (.inr (.inl (v21))), none] [.inl (Int32.ofInt 1), .inl (m_i σ40 13 (17) (Int32.ofInt 0).toNatClampNeg), .inr (.inl (v21))] σ40 (w, σ') := h
        replace h := ei_p h rfl rfl rfl rfl
        obtain ⟨f, g, h⟩ := h
        clear g
        replace h : EV F f 185 z185 145 [some (rf 11 (0)), some (rf 13 (14)), some (rf 13 (15)), some (rf 13 (17)), some (.inl (x5)), some (.inl (x6)), some (.inl (n2)), some (.inl (n6)), some (.inl (n10)), some (.inl (n15)), some (.inr (.inl (v21))), none] [.inl ((m_i σ40 13 (17) (Int32.ofInt 0).toNatClampNeg) - (Int32.ofInt 1)), .inr (.inl (v21))] σ40 (w, σ') := h
        replace h := ei_p h rfl rfl rfl rfl
        obtain ⟨f, g, h⟩ := h
        clear g
        replace h : EV F f 185 z185 146 [some (rf 11 (0)), some (rf 13 (14)), some (rf 13 (15)), some (rf 13 (17)), some (.inl (x5)), some (.inl (x6)), some (.inl (n2)), some (.inl (n6)), some (.inl (n10)), some (.inl (n15)), some (.inr (.inl (v21))), none] [.inr (.inl (((m_i σ40 13 (17) (Int32.ofInt 0).toNatClampNeg) - (Int32.ofInt 1)).toInt64)), .inr (.inl (v21))] σ40 (w, σ') := h
        replace h := ei_p h rfl rfl rfl rfl
        obtain ⟨f, g, h⟩ := h
        clear g
        replace h : EV F f 185 z185 147 [some (rf 11 (0)), some (rf 13 (14)), some (rf 13 (15)), some (rf 13 (17)), some (.inl (x5)), some (.inl (x6)), some (.inl (n2)), some (.inl (n6)), some (.inl (n10)), some (.inl (n15)), some (.inr (.inl (v21))), none] [.inl (lg_cmp (v21) (((m_i σ40 13 (17) (Int32.ofInt 0).toNatClampNeg) - (Int32.ofInt 1)).toInt64))] σ40 (w, σ') := h
        replace h := ei_c h rfl rfl rfl
        rcases h with ⟨hp43, f, g, h⟩ | ⟨hp43, f, g, h⟩
        · skip
          replace hp43 : (v21).toInt ≠ (((m_i σ40 13 (17) (Int32.ofInt 0).toNatClampNeg) - (Int32.ofInt 1)).toInt64).toInt := (ab_lc .ne _ _).mp hp43
          refine Or.inl ⟨hp43, ?_⟩
          clear g
          replace h : EV F f 185 z185 181 [some (rf 11 (0)), some (rf 13 (14)), some (rf 13 (15)), some (rf 13 (17)), some (.inl (x5)), some (.inl (x6)), some (.inl (n2)), some (.inl (n6)), some (.inl (n10)), some (.inl (n15)), some (.inr (.inl (v21))), none] [] σ40 (w, σ') := h
          exact j185_181 hsσ40 h
        · skip
          replace hp43 : ¬ ((v21).toInt ≠ (((m_i σ40 13 (17) (Int32.ofInt 0).toNatClampNeg) - (Int32.ofInt 1)).toInt64).toInt) := (not_congr (ab_lc .ne _ _)).mp hp43
          refine Or.inr ⟨hp43, ?_⟩
          clear g
          replace h : EV F f 185 z185 150 [some (rf 11 (0)), some (rf 13 (14)), some (rf 13 (15)), some (rf 13 (17)), some (.inl (x5)), some (.inl (x6)), some (.inl (n2)), some (.inl (n6)), some (.inl (n10)), some (.inl (n15)), some (.inr (.inl (v21))), none] [] σ40 (w, σ') := h
          replace h := ei_p h rfl rfl rfl rfl
          obtain ⟨f, g, h⟩ := h
          clear g
          replace h : EV F f 185 z185 151 [some (rf 11 (0)), some (rf 13 (14)), some (rf 13 (15)), some (rf 13 (17)), some (.inl (x5)), some (.inl (x6)), some (.inl (n2)), some (.inl (n6)), some (.inl (n10)), some (.inl (n15)), some (.inr (.inl (v21))), none] [rf 11 (0)] σ40 (w, σ') := h
          replace h := ei_p h rfl rfl rfl rfl
          obtain ⟨f, g, h⟩ := h
          clear g
          replace h : EV F f 185 z185 152 [some (rf 11 (0)), some (rf 13 (14)), some (rf 13 (15)), some (rf 13 (17)), some (.inl (x5)), some (.inl (x6)), some (.inl (n2)), some (.inl (n6)), some (.inl (n10)), some (.inl (n15)), some (.inr (.inl (v21))), none] [rf 13 (17), rf 11 (0)] σ40 (w, σ') := h
          replace h := ei_p h rfl rfl rfl rfl
          obtain ⟨f, g, h⟩ := h
          clear g
          replace h : EV F f 185 z185 153 [some (rf 11 (0)), some (rf 13 (14)), some (rf 13 (15)), some (rf 13 (17)), some (.inl (x5)), some (.inl (x6)), some (.inl (n2)), some (.inl (n6)), some (.inl (n10)), some (.inl (n15)), some (.inr (.inl (v21))), none] [.inl (Int32.ofInt 0), rf 13 (17), rf 11 (0)] σ40 (w, σ') := h
          replace h := ei_iald h rfl (fun _ => rfl)
          obtain ⟨vp44, f, g, h⟩ := h
          clear g
          replace h : EV F f 185 z185 154 [some (rf 11 (0)), some (rf 13 (14)), some (rf 13 (15)), some (rf 13 (17)), some (.inl (x5)), some (.inl (x6)), some (.inl (n2)), some (.inl (n6)), some (.inl (n10)), some (.inl (n15)), some (.inr (.inl (v21))), none] [.inl (m_i σ40 13 (17) (Int32.ofInt 0).toNatClampNeg), rf 11 (0)] σ40 (w, σ') := h
          refine ⟨vp_2 vp44, ?_⟩
          replace h := ei_p h rfl rfl rfl rfl
          obtain ⟨f, g, h⟩ := h
          clear g
          replace h : EV F f 185 z185 155 [some (rf 11 (0)), some (rf 13 (14)), some (rf 13 (15)), some (rf 13 (17)), some (.inl (x5)), some (.inl (x6)), some (.inl (n2)), some (.inl (n6)), some (.inl (n10)), some (.inl (n15)), some (.inr (.inl (v21))), none] [.inl (Int32.ofInt 1), .inl (m_i σ40 13 (17) (Int32.ofInt 0).toNatClampNeg), rf 11 (0)] σ40 (w, σ') := h
          replace h := ei_p h rfl rfl rfl rfl
          obtain ⟨f, g, h⟩ := h
          clear g
          replace h : EV F f 185 z185 156 [some (rf 11 (0)), some (rf 13 (14)), some (rf 13 (15)), some (rf 13 (17)), some (.inl (x5)), some (.inl (x6)), some (.inl (n2)), some (.inl (n6)), some (.inl (n10)), some (.inl (n15)), some (.inr (.inl (v21))), none] [.inl ((m_i σ40 13 (17) (Int32.ofInt 0).toNatClampNeg) - (Int32.ofInt 1)), rf 11 (0)] σ40 (w, σ') := h
          replace h := bx_I (ei_v (as := [.inl ((m_i σ40 13 (17) (Int32.ofInt 0).toNatClampNeg) - (Int32.ofInt 1))]) h rfl rfl rfl) z131_at (Or.inl rfl)
          rcases h with ⟨v45, σ46, r47, f, g, h⟩ | ⟨b, σ46, r47, e⟩
          · skip
            have er47 := ro2_run rfl r47
            rw [er47] at h r47
            clear g
            have p48 := x131 hsσ40.1 r47
            refine Or.inl ⟨v45, p48, ?_⟩
            replace h : EV F f 185 z185 159 [some (rf 11 (0)), some (rf 13 (14)), some (rf 13 (15)), some (rf 13 (17)), some (.inl (x5)), some (.inl (x6)), some (.inl (n2)), some (.inl (n6)), some (.inl (n10)), some (.inl (n15)), some (.inr (.inl (v21))), none] [.inl (v45)] σ40 (w, σ') := h
            replace h := ei_p h rfl rfl rfl rfl
            obtain ⟨f, g, h⟩ := h
            clear g
            replace h : EV F f 185 z185 161 [some (rf 11 (0)), some (rf 13 (14)), some (rf 13 (15)), some (rf 13 (17)), some (.inl (x5)), some (.inl (x6)), some (.inl (n2)), some (.inl (n6)), some (.inl (n10)), some (.inl (n15)), some (.inr (.inl (v21))), none] [.inl (Int32.ofInt 10), .inl (v45)] σ40 (w, σ') := h
            replace h := ei_p h rfl rfl rfl rfl
            obtain ⟨f, g, h⟩ := h
            clear g
            replace h : EV F f 185 z185 162 [some (rf 11 (0)), some (rf 13 (14)), some (rf 13 (15)), some (rf 13 (17)), some (.inl (x5)), some (.inl (x6)), some (.inl (n2)), some (.inl (n6)), some (.inl (n10)), some (.inl (n15)), some (.inr (.inl (v21))), none] [.inl (Int32.ofInt 1), .inl (Int32.ofInt 10), .inl (v45)] σ40 (w, σ') := h
            replace h := ei_p h rfl rfl rfl rfl
            obtain ⟨f, g, h⟩ := h
            clear g
            replace h : EV F f 185 z185 164 [some (rf 11 (0)), some (rf 13 (14)), some (rf 13 (15)), some (rf 13 (17)), some (.inl (x5)), some (.inl (x6)), some (.inl (n2)), some (.inl (n6)), some (.inl (n10)), some (.inl (n15)), some (.inr (.inl (v21))), none] [.inl (x6), .inl (Int32.ofInt 1), .inl (Int32.ofInt 10), .inl (v45)] σ40 (w, σ') := h
            replace h := ei_p h rfl rfl rfl rfl
            obtain ⟨f, g, h⟩ := h
            clear g
            replace h : EV F f 185 z185 166 [some (rf 11 (0)), some (rf 13 (14)), some (rf 13 (15)), some (rf 13 (17)), some (.inl (x5)), some (.inl (x6)), some (.inl (n2)), some (.inl (n6)), some (.inl (n10)), some (.inl (n15)), some (.inr (.inl (v21))), none] [.inl (Int32.ofInt 20), .inl (x6), .inl (Int32.ofInt 1), .inl (Int32.ofInt 10), .inl (v45)] σ40 (w, σ') := h
            replace h := ei_idiv h rfl
            obtain ⟨hd49, f, g, h⟩ := h
            clear g
            replace h : EV F f 185 z185 167 [some (rf 11 (0)), some (rf 13 (14)), some (rf 13 (15)), some (rf 13 (17)), some (.inl (x5)), some (.inl (x6)), some (.inl (n2)), some (.inl (n6)), some (.inl (n10)), some (.inl (n15)), some (.inr (.inl (v21))), none] [.inl ((x6) / (Int32.ofInt 20)), .inl (Int32.ofInt 1), .inl (Int32.ofInt 10), .inl (v45)] σ40 (w, σ') := h
            replace h := ei_p h rfl rfl rfl rfl
            obtain ⟨f, g, h⟩ := h
            clear g
            replace h : EV F f 185 z185 169 [some (rf 11 (0)), some (rf 13 (14)), some (rf 13 (15)), some (rf 13 (17)), some (.inl (x5)), some (.inl (x6)), some (.inl (n2)), some (.inl (n6)), some (.inl (n10)), some (.inl (n15)), some (.inr (.inl (v21))), none] [.inl (Int32.ofInt 30), .inl ((x6) / (Int32.ofInt 20)), .inl (Int32.ofInt 1), .inl (Int32.ofInt 10), .inl (v45)] σ40 (w, σ') := h
            replace h := ei_irem h rfl
            obtain ⟨hd50, f, g, h⟩ := h
            clear g
            replace h : EV F f 185 z185 170 [some (rf 11 (0)), some (rf 13 (14)), some (rf 13 (15)), some (rf 13 (17)), some (.inl (x5)), some (.inl (x6)), some (.inl (n2)), some (.inl (n6)), some (.inl (n10)), some (.inl (n15)), some (.inr (.inl (v21))), none] [.inl (((x6) / (Int32.ofInt 20)) - ((x6) / (Int32.ofInt 20)) / (Int32.ofInt 30) * (Int32.ofInt 30)), .inl (Int32.ofInt 1), .inl (Int32.ofInt 10), .inl (v45)] σ40 (w, σ') := h
            replace h := ei_p h rfl rfl rfl rfl
            obtain ⟨f, g, h⟩ := h
            clear g
            replace h : EV F f 185 z185 171 [some (rf 11 (0)), some (rf 13 (14)), some (rf 13 (15)), some (rf 13 (17)), some (.inl (x5)), some (.inl (x6)), some (.inl (n2)), some (.inl (n6)), some (.inl (n10)), some (.inl (n15)), some (.inr (.inl (v21))), none] [.inl ((Int32.ofInt 1) + (((x6) / (Int32.ofInt 20)) - ((x6) / (Int32.ofInt 20)) / (Int32.ofInt 30) * (Int32.ofInt 30))), .inl (Int32.ofInt 10), .inl (v45)] σ40 (w, σ') := h
            replace h := ei_p h rfl rfl rfl rfl
            obtain ⟨f, g, h⟩ := h
            clear g
            replace h : EV F f 185 z185 172 [some (rf 11 (0)), some (rf 13 (14)), some (rf 13 (15)), some (rf 13 (17)), some (.inl (x5)), some (.inl (x6)), some (.inl (n2)), some (.inl (n6)), some (.inl (n10)), some (.inl (n15)), some (.inr (.inl (v21))), none] [.inl ((Int32.ofInt 10) * ((Int32.ofInt 1) + (((x6) / (Int32.ofInt 20)) - ((x6) / (Int32.ofInt 20)) / (Int32.ofInt 30) * (Int32.ofInt 30)))), .inl (v45)] σ40 (w, σ') := h
            replace h := ei_p h rfl rfl rfl rfl
            obtain ⟨f, g, h⟩ := h
            clear g
            replace h : EV F f 185 z185 173 [some (rf 11 (0)), some (rf 13 (14)), some (rf 13 (15)), some (rf 13 (17)), some (.inl (x5)), some (.inl (x6)), some (.inl (n2)), some (.inl (n6)), some (.inl (n10)), some (.inl (n15)), some (.inr (.inl (v21))), none] [.inl (Int32.ofInt 2), .inl ((Int32.ofInt 10) * ((Int32.ofInt 1) + (((x6) / (Int32.ofInt 20)) - ((x6) / (Int32.ofInt 20)) / (Int32.ofInt 30) * (Int32.ofInt 30)))), .inl (v45)] σ40 (w, σ') := h
            replace h := ei_p h rfl rfl rfl rfl
            obtain ⟨f, g, h⟩ := h
            clear g
            replace h : EV F f 185 z185 174 [some (rf 11 (0)), some (rf 13 (14)), some (rf 13 (15)), some (rf 13 (17)), some (.inl (x5)), some (.inl (x6)), some (.inl (n2)), some (.inl (n6)), some (.inl (n10)), some (.inl (n15)), some (.inr (.inl (v21))), none] [.inl (((Int32.ofInt 10) * ((Int32.ofInt 1) + (((x6) / (Int32.ofInt 20)) - ((x6) / (Int32.ofInt 20)) / (Int32.ofInt 30) * (Int32.ofInt 30)))) + (Int32.ofInt 2)), .inl (v45)] σ40 (w, σ') := h
            replace h := ei_c h rfl rfl rfl
            rcases h with ⟨hp51, f, g, h⟩ | ⟨hp51, f, g, h⟩
            · skip
              replace hp51 : (v45).toInt ≠ (((Int32.ofInt 10) * ((Int32.ofInt 1) + (((x6) / (Int32.ofInt 20)) - ((x6) / (Int32.ofInt 20)) / (Int32.ofInt 30) * (Int32.ofInt 30)))) + (Int32.ofInt 2)).toInt := ic_ne.mp hp51
              refine Or.inl ⟨hp51, ?_⟩
              clear g
              replace h : EV F f 185 z185 181 [some (rf 11 (0)), some (rf 13 (14)), some (rf 13 (15)), some (rf 13 (17)), some (.inl (x5)), some (.inl (x6)), some (.inl (n2)), some (.inl (n6)), some (.inl (n10)), some (.inl (n15)), some (.inr (.inl (v21))), none] [] σ40 (w, σ') := h
              exact j185_181 hsσ40 h
            · skip
              replace hp51 : ¬ ((v45).toInt ≠ (((Int32.ofInt 10) * ((Int32.ofInt 1) + (((x6) / (Int32.ofInt 20)) - ((x6) / (Int32.ofInt 20)) / (Int32.ofInt 30) * (Int32.ofInt 30)))) + (Int32.ofInt 2)).toInt) := (not_congr ic_ne).mp hp51
              refine Or.inr ⟨hp51, ?_⟩
              clear g
              replace h : EV F f 185 z185 177 [some (rf 11 (0)), some (rf 13 (14)), some (rf 13 (15)), some (rf 13 (17)), some (.inl (x5)), some (.inl (x6)), some (.inl (n2)), some (.inl (n6)), some (.inl (n10)), some (.inl (n15)), some (.inr (.inl (v21))), none] [] σ40 (w, σ') := h
              replace h := ei_p h rfl rfl rfl rfl
              obtain ⟨f, g, h⟩ := h
              clear g
              replace h : EV F f 185 z185 178 [some (rf 11 (0)), some (rf 13 (14)), some (rf 13 (15)), some (rf 13 (17)), some (.inl (x5)), some (.inl (x6)), some (.inl (n2)), some (.inl (n6)), some (.inl (n10)), some (.inl (n15)), some (.inr (.inl (v21))), none] [.inl (Int32.ofInt 1)] σ40 (w, σ') := h
              replace h := ei_p h rfl rfl rfl rfl
              obtain ⟨f, g, h⟩ := h
              clear g
              replace h : EV F f 185 z185 182 [some (rf 11 (0)), some (rf 13 (14)), some (rf 13 (15)), some (rf 13 (17)), some (.inl (x5)), some (.inl (x6)), some (.inl (n2)), some (.inl (n6)), some (.inl (n10)), some (.inl (n15)), some (.inr (.inl (v21))), none] [.inl (Int32.ofInt 1)] σ40 (w, σ') := h
              have e := ei_iret h rfl
              cases e
              exact ⟨rfl, rfl⟩
          · skip
            have er47 := ro2_run rfl r47
            rw [er47] at e r47
            have p48 := x131 hsσ40.1 r47
            cases e
            exact Or.inr ⟨b, p48, rfl, rfl⟩
      · skip
        replace hp29 : ¬ ((v25).toInt = (0 : Int)) := (not_congr ic_eq).mp hp29
        refine Or.inr ⟨hp29, ?_⟩
        clear g
        replace h : EV F f 185 z185 90 [some (rf 11 (0)), some (rf 13 (14)), some (rf 13 (15)), some (rf 13 (17)), some (.inl (x5)), some (.inl (x6)), some (.inl (n2)), some (.inl (n6)), some (.inl (n10)), some (.inl (n15)), some (.inr (.inl (v21))), none] [] σ22 (w, σ') := h
        replace h := ei_p h rfl rfl rfl rfl
        obtain ⟨f, g, h⟩ := h
        clear g
        replace h : EV F f 185 z185 92 [some (rf 11 (0)), some (rf 13 (14)), some (rf 13 (15)), some (rf 13 (17)), some (.inl (x5)), some (.inl (x6)), some (.inl (n2)), some (.inl (n6)), some (.inl (n10)), some (.inl (n15)), some (.inr (.inl (v21))), none] [.inr (.inl (v21))] σ22 (w, σ') := h
        replace h := ei_p h rfl rfl rfl rfl
        obtain ⟨f, g, h⟩ := h
        clear g
        replace h : EV F f 185 z185 95 [some (rf 11 (0)), some (rf 13 (14)), some (rf 13 (15)), some (rf 13 (17)), some (.inl (x5)), some (.inl (x6)), some (.inl (n2)), some (.inl (n6)), some (.inl (n10)), some (.inl (n15)), some (.inr (.inl (v21))), none] [.inr (.inl (Int64.ofInt (-1000000000))), .inr (.inl (v21))] σ22 (w, σ') := h
        replace h := ei_p h rfl rfl rfl rfl
        obtain ⟨f, g, h⟩ := h
        clear g
        replace h : EV F f 185 z185 96 [some (rf 11 (0)), some (rf 13 (14)), some (rf 13 (15)), some (rf 13 (17)), some (.inl (x5)), some (.inl (x6)), some (.inl (n2)), some (.inl (n6)), some (.inl (n10)), some (.inl (n15)), some (.inr (.inl (v21))), none] [.inl (lg_cmp (v21) (Int64.ofInt (-1000000000)))] σ22 (w, σ') := h
        replace h := ei_c h rfl rfl rfl
        rcases h with ⟨hp52, f, g, h⟩ | ⟨hp52, f, g, h⟩
        · skip
          replace hp52 : (v21).toInt ≠ (Int64.ofInt (-1000000000)).toInt := (ab_lc .ne _ _).mp hp52
          refine Or.inl ⟨hp52, ?_⟩
          clear g
          replace h : EV F f 185 z185 103 [some (rf 11 (0)), some (rf 13 (14)), some (rf 13 (15)), some (rf 13 (17)), some (.inl (x5)), some (.inl (x6)), some (.inl (n2)), some (.inl (n6)), some (.inl (n10)), some (.inl (n15)), some (.inr (.inl (v21))), none] [] σ22 (w, σ') := h
          replace h := ei_p h rfl rfl rfl rfl
          obtain ⟨f, g, h⟩ := h
          clear g
          replace h : EV F f 185 z185 104 [some (rf 11 (0)), some (rf 13 (14)), some (rf 13 (15)), some (rf 13 (17)), some (.inl (x5)), some (.inl (x6)), some (.inl (n2)), some (.inl (n6)), some (.inl (n10)), some (.inl (n15)), some (.inr (.inl (v21))), none] [.inl (Int32.ofInt 0)] σ22 (w, σ') := h
          have e := ei_iret h rfl
          cases e
          exact ⟨rfl, rfl⟩
        · skip
          replace hp52 : ¬ ((v21).toInt ≠ (Int64.ofInt (-1000000000)).toInt) := (not_congr (ab_lc .ne _ _)).mp hp52
          refine Or.inr ⟨hp52, ?_⟩
          clear g
          replace h : EV F f 185 z185 99 [some (rf 11 (0)), some (rf 13 (14)), some (rf 13 (15)), some (rf 13 (17)), some (.inl (x5)), some (.inl (x6)), some (.inl (n2)), some (.inl (n6)), some (.inl (n10)), some (.inl (n15)), some (.inr (.inl (v21))), none] [] σ22 (w, σ') := h
          replace h := ei_p h rfl rfl rfl rfl
          obtain ⟨f, g, h⟩ := h
          clear g
          replace h : EV F f 185 z185 100 [some (rf 11 (0)), some (rf 13 (14)), some (rf 13 (15)), some (rf 13 (17)), some (.inl (x5)), some (.inl (x6)), some (.inl (n2)), some (.inl (n6)), some (.inl (n10)), some (.inl (n15)), some (.inr (.inl (v21))), none] [.inl (Int32.ofInt 1)] σ22 (w, σ') := h
          replace h := ei_p h rfl rfl rfl rfl
          obtain ⟨f, g, h⟩ := h
          clear g
          replace h : EV F f 185 z185 104 [some (rf 11 (0)), some (rf 13 (14)), some (rf 13 (15)), some (rf 13 (17)), some (.inl (x5)), some (.inl (x6)), some (.inl (n2)), some (.inl (n6)), some (.inl (n10)), some (.inl (n15)), some (.inr (.inl (v21))), none] [.inl (Int32.ofInt 1)] σ22 (w, σ') := h
          have e := ei_iret h rfl
          cases e
          exact ⟨rfl, rfl⟩
    · skip
      have er27 := ro2_run rfl r27
      rw [er27] at e r27
      have p28 := x182 hsσ22 r27
      cases e
      exact Or.inr ⟨b, p28, rfl, rfl⟩
  · skip
    replace hp13 : ¬ ((m_i σ 13 (17) (Int32.ofInt 0).toNatClampNeg).toInt < (60 : Int)) := (not_congr ic_lt).mp hp13
    refine Or.inr ⟨hp13, ?_⟩
    clear g
    replace h : EV F f 185 z185 31 [some (rf 11 (0)), some (rf 13 (14)), some (rf 13 (15)), some (rf 13 (17)), some (.inl (x5)), some (.inl (x6)), some (.inl (n2)), some (.inl (n6)), some (.inl (n10)), none, none, none] [] σ (w, σ') := h
    replace h := ei_p h rfl rfl rfl rfl
    obtain ⟨f, g, h⟩ := h
    clear g
    replace h : EV F f 185 z185 32 [some (rf 11 (0)), some (rf 13 (14)), some (rf 13 (15)), some (rf 13 (17)), some (.inl (x5)), some (.inl (x6)), some (.inl (n2)), some (.inl (n6)), some (.inl (n10)), none, none, none] [.inl (Int32.ofInt 1)] σ (w, σ') := h
    have e := ei_iret h rfl
    cases e
    exact ⟨rfl, rfl⟩
def z189 : mAl := ((yL_isRead, cL_isRead, 4, (some .boolean), { frames := 9, cells := 269, slots := 1782, locals := 247 }, []), rw_L_isRead, false)
theorem z189_at : m_alF[189]? = some z189 := rfl
def J189_167 (τ : mS) (w : mX) (σ' : mS) : Prop := w = .inl (some (.inl (Int32.ofInt 0))) ∧ σ' = τ
set_option maxRecDepth 100000 in
theorem j189_167 {F f : Nat} {σ' τ : mS} {y0 : Option mV} {y1 : Option mV} {y2 : Option mV} {y3 : Option mV} {w : mX} (hsτ : HL τ) (h : EV F f 189 z189 167 [y0, y1, y2, y3] [] τ (w, σ')) : J189_167 τ w σ' := by
  unfold J189_167
  replace h := ei_p h rfl rfl rfl rfl
  obtain ⟨f, g, h⟩ := h
  clear g
  replace h : EV F f 189 z189 168 [y0, y1, y2, y3] [.inl (Int32.ofInt 0)] τ (w, σ') := h
  have e := ei_iret h rfl
  cases e
  exact ⟨rfl, rfl⟩
def J189_143 (τ : mS) (w : mX) (σ' : mS) : Prop := w = .inl (some (.inl (Int32.ofInt 0))) ∧ σ' = τ
set_option maxRecDepth 100000 in
theorem j189_143 {F f : Nat} {σ' τ : mS} {y0 : Option mV} {y1 : Option mV} {y2 : Option mV} {y3 : Option mV} {w : mX} (hsτ : HL τ) (h : EV F f 189 z189 143 [y0, y1, y2, y3] [] τ (w, σ')) : J189_143 τ w σ' := by
  unfold J189_143
  replace h := ei_p h rfl rfl rfl rfl
  obtain ⟨f, g, h⟩ := h
  clear g
  replace h : EV F f 189 z189 144 [y0, y1, y2, y3] [.inl (Int32.ofInt 0)] τ (w, σ') := h
  have e := ei_iret h rfl
  cases e
  exact ⟨rfl, rfl⟩
def J189_73 (τ : mS) (w : mX) (σ' : mS) : Prop := w = .inl (some (.inl (Int32.ofInt 0))) ∧ σ' = τ
set_option maxRecDepth 100000 in
theorem j189_73 {F f : Nat} {σ' τ : mS} {y0 : Option mV} {y1 : Option mV} {y2 : Option mV} {y3 : Option mV} {w : mX} (hsτ : HL τ) (h : EV F f 189 z189 73 [y0, y1, y2, y3] [] τ (w, σ')) : J189_73 τ w σ' := by
  unfold J189_73
  replace h := ei_p h rfl rfl rfl rfl
  obtain ⟨f, g, h⟩ := h
  clear g
  replace h : EV F f 189 z189 74 [y0, y1, y2, y3] [.inl (Int32.ofInt 0)] τ (w, σ') := h
  have e := ei_iret h rfl
  cases e
  exact ⟨rfl, rfl⟩
def P189 (σ : mS) (x2 : Int32) (x3 : Int32) (w : mX) (σ' : mS) : Prop := ∃ n2, n2 = (x2) - (x2) / (Int32.ofInt 3) * (Int32.ofInt 3) ∧ (((n2).toInt ≠ (2 : Int) ∧ ((((x3) - (x3) / (Int32.ofInt 5) * (Int32.ofInt 5)).toInt ≠ (0 : Int) ∧ ((((x3) - (x3) / (Int32.ofInt 5) * (Int32.ofInt 5)).toInt ≠ (1 : Int) ∧ ((∃ v9 σ10, gF σ σ10 ∧ P153 σ (Int32.ofInt 1) (.inl (some (.inl v9))) σ10 ∧ (((v9).toInt < (-2 : Int) ∧ J189_167 σ10 w σ') ∨ (¬ ((v9).toInt < (-2 : Int)) ∧ ((∃ v14 σ15, gF σ10 σ15 ∧ P156 σ10 (Int32.ofInt 1) (.inl (some (.inl v14))) σ15 ∧ (((v14).toInt < (0 : Int) ∧ J189_167 σ15 w σ') ∨ (¬ ((v14).toInt < (0 : Int)) ∧ w = .inl (some (.inl (Int32.ofInt 1))) ∧ σ' = σ15))) ∨ (∃ b, gF σ10 σ' ∧ P156 σ10 (Int32.ofInt 1) (.inr b) σ' ∧ w = .inr b))))) ∨ (∃ b, gF σ σ' ∧ P153 σ (Int32.ofInt 1) (.inr b) σ' ∧ w = .inr b))) ∨ (¬ (((x3) - (x3) / (Int32.ofInt 5) * (Int32.ofInt 5)).toInt ≠ (1 : Int)) ∧ ((∃ v19 σ20, gF σ σ20 ∧ P155 σ (Int32.ofInt 1) (.inl (some (.inl v19))) σ20 ∧ (((v19).toInt < (0 : Int) ∧ J189_143 σ20 w σ') ∨ (¬ ((v19).toInt < (0 : Int)) ∧ ((∃ v24 σ25, gF σ20 σ25 ∧ P156 σ20 (Int32.ofInt 1) (.inl (some (.inl v24))) σ25 ∧ (((v24).toInt ≠ (0 : Int) ∧ J189_143 σ25 w σ') ∨ (¬ ((v24).toInt ≠ (0 : Int)) ∧ ((∃ v29 σ30, gF σ25 σ30 ∧ P153 σ25 (Int32.ofInt 1) (.inl (some (.inl v29))) σ30 ∧ (((v29).toInt ≠ (-1 : Int) ∧ J189_143 σ30 w σ') ∨ (¬ ((v29).toInt ≠ (-1 : Int)) ∧ w = .inl (some (.inl (Int32.ofInt 1))) ∧ σ' = σ30))) ∨ (∃ b, gF σ25 σ' ∧ P153 σ25 (Int32.ofInt 1) (.inr b) σ' ∧ w = .inr b))))) ∨ (∃ b, gF σ20 σ' ∧ P156 σ20 (Int32.ofInt 1) (.inr b) σ' ∧ w = .inr b))))) ∨ (∃ b, gF σ σ' ∧ P155 σ (Int32.ofInt 1) (.inr b) σ' ∧ w = .inr b))))) ∨ (¬ (((x3) - (x3) / (Int32.ofInt 5) * (Int32.ofInt 5)).toInt ≠ (0 : Int)) ∧ ∃ v34 σ35, gF σ σ35 ∧ HL σ35 ∧ P172 σ (Int32.ofInt 15) (Int32.ofInt 1) (Int32.ofInt 0) (Int32.ofInt 0) (Int32.ofInt 0) (Int32.ofInt 0) (Int32.ofInt 0) (Int32.ofInt 0) (.inl (some (.inr (.inl v34)))) σ35 ∧ (((v34).toInt < (Int64.ofInt (-1000000000)).toInt ∧ w = .inl (some (.inl (Int32.ofInt 0))) ∧ σ' = σ35) ∨ (¬ ((v34).toInt < (Int64.ofInt (-1000000000)).toInt) ∧ w = .inl (some (.inl (Int32.ofInt 1))) ∧ σ' = σ35))))) ∨ (¬ ((n2).toInt ≠ (2 : Int)) ∧ ∃ v39 σ40, gF σ σ40 ∧ HL σ40 ∧ P172 σ (Int32.ofInt 14) (Int32.ofInt 2) (Int32.ofInt 0) (Int32.ofInt 0) (Int32.ofInt 0) (Int32.ofInt 0) (Int32.ofInt 0) (Int32.ofInt 0) (.inl (some (.inr (.inl v39)))) σ40 ∧ (((v39).toInt ≠ (Int64.ofInt (-3000000000)).toInt ∧ J189_73 σ40 w σ') ∨ (¬ ((v39).toInt ≠ (Int64.ofInt (-3000000000)).toInt) ∧ ∃ v44 σ45, gF σ40 σ45 ∧ HL σ45 ∧ P172 σ40 (Int32.ofInt 15) (Int32.ofInt 2) (Int32.ofInt 0) (Int32.ofInt 0) (Int32.ofInt 0) (Int32.ofInt 0) (Int32.ofInt 0) (Int32.ofInt 0) (.inl (some (.inr (.inl v44)))) σ45 ∧ (((v44).toInt ≠ (Int64.ofInt (-3000000000)).toInt ∧ J189_73 σ45 w σ') ∨ (¬ ((v44).toInt ≠ (Int64.ofInt (-3000000000)).toInt) ∧ ∃ v49 σ50, gF σ45 σ50 ∧ HL σ50 ∧ P172 σ45 (Int32.ofInt 16) (Int32.ofInt 2) (Int32.ofInt 0) (Int32.ofInt 0) (Int32.ofInt 0) (Int32.ofInt 0) (Int32.ofInt 0) (Int32.ofInt 0) (.inl (some (.inr (.inl v49)))) σ50 ∧ (((v49).toInt ≠ (Int64.ofInt (-3000000000)).toInt ∧ J189_73 σ50 w σ') ∨ (¬ ((v49).toInt ≠ (Int64.ofInt (-3000000000)).toInt) ∧ w = .inl (some (.inl (Int32.ofInt 1))) ∧ σ' = σ50))))))))
set_option maxRecDepth 100000 in
theorem x189 {σ σ' : mS} {x2 : Int32} {x3 : Int32} {w : mX} (hs : HL σ) (h : ev_run sm_all 189 [rf 11 (0), .inl (x2), .inl (x3)] σ (w) σ') : P189 σ x2 x3 w σ' := by
  unfold P189
  obtain ⟨F, f, h⟩ := ei_go h z189_at
  replace h : EV F f 189 z189 0 [some (rf 11 (0)), some (.inl (x2)), some (.inl (x3)), none] [] σ (w, σ') := h
  replace h := ei_p h rfl rfl rfl rfl
  obtain ⟨f, g, h⟩ := h
  clear g
  replace h : EV F f 189 z189 1 [some (rf 11 (0)), some (.inl (x2)), some (.inl (x3)), none] [.inl (x2)] σ (w, σ') := h
  replace h := ei_p h rfl rfl rfl rfl
  obtain ⟨f, g, h⟩ := h
  clear g
  replace h : EV F f 189 z189 2 [some (rf 11 (0)), some (.inl (x2)), some (.inl (x3)), none] [.inl (Int32.ofInt 3), .inl (x2)] σ (w, σ') := h
  replace h := ei_irem h rfl
  obtain ⟨hd1, f, g, h⟩ := h
  clear g
  replace h : EV F f 189 z189 3 [some (rf 11 (0)), some (.inl (x2)), some (.inl (x3)), none] [.inl ((x2) - (x2) / (Int32.ofInt 3) * (Int32.ofInt 3))] σ (w, σ') := h
  replace h := ei_p h rfl rfl rfl rfl
  obtain ⟨f, g, h⟩ := h
  clear g
  replace h : EV F f 189 z189 4 [some (rf 11 (0)), some (.inl (x2)), some (.inl (x3)), some (.inl ((x2) - (x2) / (Int32.ofInt 3) * (Int32.ofInt 3)))] [] σ (w, σ') := h
  obtain ⟨n2, e3⟩ : ∃ s, s = (x2) - (x2) / (Int32.ofInt 3) * (Int32.ofInt 3) := ⟨_, rfl⟩
  rw [← e3] at h
  refine ⟨n2, e3, ?_⟩
  replace h : EV F f 189 z189 4 [some (rf 11 (0)), some (.inl (x2)), some (.inl (x3)), some (.inl (n2))] [] σ (w, σ') := h
  replace h := ei_p h rfl rfl rfl rfl
  obtain ⟨f, g, h⟩ := h
  clear g
  replace h : EV F f 189 z189 5 [some (rf 11 (0)), some (.inl (x2)), some (.inl (x3)), some (.inl (n2))] [.inl (n2)] σ (w, σ') := h
  replace h := ei_p h rfl rfl rfl rfl
  obtain ⟨f, g, h⟩ := h
  clear g
  replace h : EV F f 189 z189 6 [some (rf 11 (0)), some (.inl (x2)), some (.inl (x3)), some (.inl (n2))] [.inl (Int32.ofInt 2), .inl (n2)] σ (w, σ') := h
  replace h := ei_c h rfl rfl rfl
  rcases h with ⟨hp4, f, g, h⟩ | ⟨hp4, f, g, h⟩
  · skip
    replace hp4 : (n2).toInt ≠ (2 : Int) := ic_ne.mp hp4
    refine Or.inl ⟨hp4, ?_⟩
    clear g
    replace h : EV F f 189 z189 75 [some (rf 11 (0)), some (.inl (x2)), some (.inl (x3)), some (.inl (n2))] [] σ (w, σ') := h
    replace h := ei_p h rfl rfl rfl rfl
    obtain ⟨f, g, h⟩ := h
    clear g
    replace h : EV F f 189 z189 76 [some (rf 11 (0)), some (.inl (x2)), some (.inl (x3)), some (.inl (n2))] [.inl (x3)] σ (w, σ') := h
    replace h := ei_p h rfl rfl rfl rfl
    obtain ⟨f, g, h⟩ := h
    clear g
    replace h : EV F f 189 z189 77 [some (rf 11 (0)), some (.inl (x2)), some (.inl (x3)), some (.inl (n2))] [.inl (Int32.ofInt 5), .inl (x3)] σ (w, σ') := h
    replace h := ei_irem h rfl
    obtain ⟨hd5, f, g, h⟩ := h
    clear g
    replace h : EV F f 189 z189 78 [some (rf 11 (0)), some (.inl (x2)), some (.inl (x3)), some (.inl (n2))] [.inl ((x3) - (x3) / (Int32.ofInt 5) * (Int32.ofInt 5))] σ (w, σ') := h
    replace h := ei_c h rfl rfl rfl
    rcases h with ⟨hp6, f, g, h⟩ | ⟨hp6, f, g, h⟩
    · skip
      replace hp6 : ((x3) - (x3) / (Int32.ofInt 5) * (Int32.ofInt 5)).toInt ≠ (0 : Int) := ic_ne.mp hp6
      refine Or.inl ⟨hp6, ?_⟩
      clear g
      replace h : EV F f 189 z189 107 [some (rf 11 (0)), some (.inl (x2)), some (.inl (x3)), some (.inl (n2))] [] σ (w, σ') := h
      replace h := ei_p h rfl rfl rfl rfl
      obtain ⟨f, g, h⟩ := h
      clear g
      replace h : EV F f 189 z189 108 [some (rf 11 (0)), some (.inl (x2)), some (.inl (x3)), some (.inl (n2))] [.inl (x3)] σ (w, σ') := h
      replace h := ei_p h rfl rfl rfl rfl
      obtain ⟨f, g, h⟩ := h
      clear g
      replace h : EV F f 189 z189 109 [some (rf 11 (0)), some (.inl (x2)), some (.inl (x3)), some (.inl (n2))] [.inl (Int32.ofInt 5), .inl (x3)] σ (w, σ') := h
      replace h := ei_irem h rfl
      obtain ⟨hd7, f, g, h⟩ := h
      clear g
      replace h : EV F f 189 z189 110 [some (rf 11 (0)), some (.inl (x2)), some (.inl (x3)), some (.inl (n2))] [.inl ((x3) - (x3) / (Int32.ofInt 5) * (Int32.ofInt 5))] σ (w, σ') := h
      replace h := ei_p h rfl rfl rfl rfl
      obtain ⟨f, g, h⟩ := h
      clear g
      replace h : EV F f 189 z189 111 [some (rf 11 (0)), some (.inl (x2)), some (.inl (x3)), some (.inl (n2))] [.inl (Int32.ofInt 1), .inl ((x3) - (x3) / (Int32.ofInt 5) * (Int32.ofInt 5))] σ (w, σ') := h
      replace h := ei_c h rfl rfl rfl
      rcases h with ⟨hp8, f, g, h⟩ | ⟨hp8, f, g, h⟩
      · skip
        replace hp8 : ((x3) - (x3) / (Int32.ofInt 5) * (Int32.ofInt 5)).toInt ≠ (1 : Int) := ic_ne.mp hp8
        refine Or.inl ⟨hp8, ?_⟩
        clear g
        replace h : EV F f 189 z189 145 [some (rf 11 (0)), some (.inl (x2)), some (.inl (x3)), some (.inl (n2))] [] σ (w, σ') := h
        replace h := ei_p h rfl rfl rfl rfl
        obtain ⟨f, g, h⟩ := h
        clear g
        replace h : EV F f 189 z189 146 [some (rf 11 (0)), some (.inl (x2)), some (.inl (x3)), some (.inl (n2))] [rf 11 (0)] σ (w, σ') := h
        replace h := ei_p h rfl rfl rfl rfl
        obtain ⟨f, g, h⟩ := h
        clear g
        replace h : EV F f 189 z189 147 [some (rf 11 (0)), some (.inl (x2)), some (.inl (x3)), some (.inl (n2))] [.inl (Int32.ofInt 1), rf 11 (0)] σ (w, σ') := h
        replace h := bx_I (ei_v (as := [.inl (Int32.ofInt 1)]) h rfl rfl rfl) z153_at (Or.inl rfl)
        rcases h with ⟨v9, σ10, r11, f, g, h⟩ | ⟨b, σ10, r11, e⟩
        · skip
          clear g
          have p12 := x153 hs.1 r11
          have hsσ10 : HL σ10 := HL_r2 rfl r11 rfl hs
          refine Or.inl ⟨v9, σ10, gF_r r11 rfl hs, p12, ?_⟩
          replace h : EV F f 189 z189 150 [some (rf 11 (0)), some (.inl (x2)), some (.inl (x3)), some (.inl (n2))] [.inl (v9)] σ10 (w, σ') := h
          replace h := ei_p h rfl rfl rfl rfl
          obtain ⟨f, g, h⟩ := h
          clear g
          replace h : EV F f 189 z189 152 [some (rf 11 (0)), some (.inl (x2)), some (.inl (x3)), some (.inl (n2))] [.inl (Int32.ofInt (-2)), .inl (v9)] σ10 (w, σ') := h
          replace h := ei_c h rfl rfl rfl
          rcases h with ⟨hp13, f, g, h⟩ | ⟨hp13, f, g, h⟩
          · skip
            replace hp13 : (v9).toInt < (-2 : Int) := ic_lt.mp hp13
            refine Or.inl ⟨hp13, ?_⟩
            clear g
            replace h : EV F f 189 z189 167 [some (rf 11 (0)), some (.inl (x2)), some (.inl (x3)), some (.inl (n2))] [] σ10 (w, σ') := h
            exact j189_167 hsσ10 h
          · skip
            replace hp13 : ¬ ((v9).toInt < (-2 : Int)) := (not_congr ic_lt).mp hp13
            refine Or.inr ⟨hp13, ?_⟩
            clear g
            replace h : EV F f 189 z189 155 [some (rf 11 (0)), some (.inl (x2)), some (.inl (x3)), some (.inl (n2))] [] σ10 (w, σ') := h
            replace h := ei_p h rfl rfl rfl rfl
            obtain ⟨f, g, h⟩ := h
            clear g
            replace h : EV F f 189 z189 156 [some (rf 11 (0)), some (.inl (x2)), some (.inl (x3)), some (.inl (n2))] [rf 11 (0)] σ10 (w, σ') := h
            replace h := ei_p h rfl rfl rfl rfl
            obtain ⟨f, g, h⟩ := h
            clear g
            replace h : EV F f 189 z189 157 [some (rf 11 (0)), some (.inl (x2)), some (.inl (x3)), some (.inl (n2))] [.inl (Int32.ofInt 1), rf 11 (0)] σ10 (w, σ') := h
            replace h := bx_I (ei_v (as := [.inl (Int32.ofInt 1)]) h rfl rfl rfl) z156_at (Or.inl rfl)
            rcases h with ⟨v14, σ15, r16, f, g, h⟩ | ⟨b, σ15, r16, e⟩
            · skip
              clear g
              have p17 := x156 hsσ10.1 r16
              have hsσ15 : HL σ15 := HL_r2 rfl r16 rfl hsσ10
              refine Or.inl ⟨v14, σ15, gF_r r16 rfl hsσ10, p17, ?_⟩
              replace h : EV F f 189 z189 160 [some (rf 11 (0)), some (.inl (x2)), some (.inl (x3)), some (.inl (n2))] [.inl (v14)] σ15 (w, σ') := h
              replace h := ei_c h rfl rfl rfl
              rcases h with ⟨hp18, f, g, h⟩ | ⟨hp18, f, g, h⟩
              · skip
                replace hp18 : (v14).toInt < (0 : Int) := ic_lt.mp hp18
                refine Or.inl ⟨hp18, ?_⟩
                clear g
                replace h : EV F f 189 z189 167 [some (rf 11 (0)), some (.inl (x2)), some (.inl (x3)), some (.inl (n2))] [] σ15 (w, σ') := h
                exact j189_167 hsσ15 h
              · skip
                replace hp18 : ¬ ((v14).toInt < (0 : Int)) := (not_congr ic_lt).mp hp18
                refine Or.inr ⟨hp18, ?_⟩
                clear g
                replace h : EV F f 189 z189 163 [some (rf 11 (0)), some (.inl (x2)), some (.inl (x3)), some (.inl (n2))] [] σ15 (w, σ') := h
                replace h := ei_p h rfl rfl rfl rfl
                obtain ⟨f, g, h⟩ := h
                clear g
                replace h : EV F f 189 z189 164 [some (rf 11 (0)), some (.inl (x2)), some (.inl (x3)), some (.inl (n2))] [.inl (Int32.ofInt 1)] σ15 (w, σ') := h
                replace h := ei_p h rfl rfl rfl rfl
                obtain ⟨f, g, h⟩ := h
                clear g
                replace h : EV F f 189 z189 168 [some (rf 11 (0)), some (.inl (x2)), some (.inl (x3)), some (.inl (n2))] [.inl (Int32.ofInt 1)] σ15 (w, σ') := h
                have e := ei_iret h rfl
                cases e
                exact ⟨rfl, rfl⟩
            · skip
              have p17 := x156 hsσ10.1 r16
              cases e
              exact Or.inr ⟨b, gF_r r16 rfl hsσ10, p17, rfl⟩
        · skip
          have p12 := x153 hs.1 r11
          cases e
          exact Or.inr ⟨b, gF_r r11 rfl hs, p12, rfl⟩
      · skip
        replace hp8 : ¬ (((x3) - (x3) / (Int32.ofInt 5) * (Int32.ofInt 5)).toInt ≠ (1 : Int)) := (not_congr ic_ne).mp hp8
        refine Or.inr ⟨hp8, ?_⟩
        clear g
        replace h : EV F f 189 z189 114 [some (rf 11 (0)), some (.inl (x2)), some (.inl (x3)), some (.inl (n2))] [] σ (w, σ') := h
        replace h := ei_p h rfl rfl rfl rfl
        obtain ⟨f, g, h⟩ := h
        clear g
        replace h : EV F f 189 z189 115 [some (rf 11 (0)), some (.inl (x2)), some (.inl (x3)), some (.inl (n2))] [rf 11 (0)] σ (w, σ') := h
        replace h := ei_p h rfl rfl rfl rfl
        obtain ⟨f, g, h⟩ := h
        clear g
        replace h : EV F f 189 z189 116 [some (rf 11 (0)), some (.inl (x2)), some (.inl (x3)), some (.inl (n2))] [.inl (Int32.ofInt 1), rf 11 (0)] σ (w, σ') := h
        replace h := bx_I (ei_v (as := [.inl (Int32.ofInt 1)]) h rfl rfl rfl) z155_at (Or.inl rfl)
        rcases h with ⟨v19, σ20, r21, f, g, h⟩ | ⟨b, σ20, r21, e⟩
        · skip
          clear g
          have p22 := x155 hs.1 r21
          have hsσ20 : HL σ20 := HL_r2 rfl r21 rfl hs
          refine Or.inl ⟨v19, σ20, gF_r r21 rfl hs, p22, ?_⟩
          replace h : EV F f 189 z189 119 [some (rf 11 (0)), some (.inl (x2)), some (.inl (x3)), some (.inl (n2))] [.inl (v19)] σ20 (w, σ') := h
          replace h := ei_c h rfl rfl rfl
          rcases h with ⟨hp23, f, g, h⟩ | ⟨hp23, f, g, h⟩
          · skip
            replace hp23 : (v19).toInt < (0 : Int) := ic_lt.mp hp23
            refine Or.inl ⟨hp23, ?_⟩
            clear g
            replace h : EV F f 189 z189 143 [some (rf 11 (0)), some (.inl (x2)), some (.inl (x3)), some (.inl (n2))] [] σ20 (w, σ') := h
            exact j189_143 hsσ20 h
          · skip
            replace hp23 : ¬ ((v19).toInt < (0 : Int)) := (not_congr ic_lt).mp hp23
            refine Or.inr ⟨hp23, ?_⟩
            clear g
            replace h : EV F f 189 z189 122 [some (rf 11 (0)), some (.inl (x2)), some (.inl (x3)), some (.inl (n2))] [] σ20 (w, σ') := h
            replace h := ei_p h rfl rfl rfl rfl
            obtain ⟨f, g, h⟩ := h
            clear g
            replace h : EV F f 189 z189 123 [some (rf 11 (0)), some (.inl (x2)), some (.inl (x3)), some (.inl (n2))] [rf 11 (0)] σ20 (w, σ') := h
            replace h := ei_p h rfl rfl rfl rfl
            obtain ⟨f, g, h⟩ := h
            clear g
            replace h : EV F f 189 z189 124 [some (rf 11 (0)), some (.inl (x2)), some (.inl (x3)), some (.inl (n2))] [.inl (Int32.ofInt 1), rf 11 (0)] σ20 (w, σ') := h
            replace h := bx_I (ei_v (as := [.inl (Int32.ofInt 1)]) h rfl rfl rfl) z156_at (Or.inl rfl)
            rcases h with ⟨v24, σ25, r26, f, g, h⟩ | ⟨b, σ25, r26, e⟩
            · skip
              clear g
              have p27 := x156 hsσ20.1 r26
              have hsσ25 : HL σ25 := HL_r2 rfl r26 rfl hsσ20
              refine Or.inl ⟨v24, σ25, gF_r r26 rfl hsσ20, p27, ?_⟩
              replace h : EV F f 189 z189 127 [some (rf 11 (0)), some (.inl (x2)), some (.inl (x3)), some (.inl (n2))] [.inl (v24)] σ25 (w, σ') := h
              replace h := ei_c h rfl rfl rfl
              rcases h with ⟨hp28, f, g, h⟩ | ⟨hp28, f, g, h⟩
              · skip
                replace hp28 : (v24).toInt ≠ (0 : Int) := ic_ne.mp hp28
                refine Or.inl ⟨hp28, ?_⟩
                clear g
                replace h : EV F f 189 z189 143 [some (rf 11 (0)), some (.inl (x2)), some (.inl (x3)), some (.inl (n2))] [] σ25 (w, σ') := h
                exact j189_143 hsσ25 h
              · skip
                replace hp28 : ¬ ((v24).toInt ≠ (0 : Int)) := (not_congr ic_ne).mp hp28
                refine Or.inr ⟨hp28, ?_⟩
                clear g
                replace h : EV F f 189 z189 130 [some (rf 11 (0)), some (.inl (x2)), some (.inl (x3)), some (.inl (n2))] [] σ25 (w, σ') := h
                replace h := ei_p h rfl rfl rfl rfl
                obtain ⟨f, g, h⟩ := h
                clear g
                replace h : EV F f 189 z189 131 [some (rf 11 (0)), some (.inl (x2)), some (.inl (x3)), some (.inl (n2))] [rf 11 (0)] σ25 (w, σ') := h
                replace h := ei_p h rfl rfl rfl rfl
                obtain ⟨f, g, h⟩ := h
                clear g
                replace h : EV F f 189 z189 132 [some (rf 11 (0)), some (.inl (x2)), some (.inl (x3)), some (.inl (n2))] [.inl (Int32.ofInt 1), rf 11 (0)] σ25 (w, σ') := h
                replace h := bx_I (ei_v (as := [.inl (Int32.ofInt 1)]) h rfl rfl rfl) z153_at (Or.inl rfl)
                rcases h with ⟨v29, σ30, r31, f, g, h⟩ | ⟨b, σ30, r31, e⟩
                · skip
                  clear g
                  have p32 := x153 hsσ25.1 r31
                  have hsσ30 : HL σ30 := HL_r2 rfl r31 rfl hsσ25
                  refine Or.inl ⟨v29, σ30, gF_r r31 rfl hsσ25, p32, ?_⟩
                  replace h : EV F f 189 z189 135 [some (rf 11 (0)), some (.inl (x2)), some (.inl (x3)), some (.inl (n2))] [.inl (v29)] σ30 (w, σ') := h
                  replace h := ei_p h rfl rfl rfl rfl
                  obtain ⟨f, g, h⟩ := h
                  clear g
                  replace h : EV F f 189 z189 136 [some (rf 11 (0)), some (.inl (x2)), some (.inl (x3)), some (.inl (n2))] [.inl (Int32.ofInt (-1)), .inl (v29)] σ30 (w, σ') := h
                  replace h := ei_c h rfl rfl rfl
                  rcases h with ⟨hp33, f, g, h⟩ | ⟨hp33, f, g, h⟩
                  · skip
                    replace hp33 : (v29).toInt ≠ (-1 : Int) := ic_ne.mp hp33
                    refine Or.inl ⟨hp33, ?_⟩
                    clear g
                    replace h : EV F f 189 z189 143 [some (rf 11 (0)), some (.inl (x2)), some (.inl (x3)), some (.inl (n2))] [] σ30 (w, σ') := h
                    exact j189_143 hsσ30 h
                  · skip
                    replace hp33 : ¬ ((v29).toInt ≠ (-1 : Int)) := (not_congr ic_ne).mp hp33
                    refine Or.inr ⟨hp33, ?_⟩
                    clear g
                    replace h : EV F f 189 z189 139 [some (rf 11 (0)), some (.inl (x2)), some (.inl (x3)), some (.inl (n2))] [] σ30 (w, σ') := h
                    replace h := ei_p h rfl rfl rfl rfl
                    obtain ⟨f, g, h⟩ := h
                    clear g
                    replace h : EV F f 189 z189 140 [some (rf 11 (0)), some (.inl (x2)), some (.inl (x3)), some (.inl (n2))] [.inl (Int32.ofInt 1)] σ30 (w, σ') := h
                    replace h := ei_p h rfl rfl rfl rfl
                    obtain ⟨f, g, h⟩ := h
                    clear g
                    replace h : EV F f 189 z189 144 [some (rf 11 (0)), some (.inl (x2)), some (.inl (x3)), some (.inl (n2))] [.inl (Int32.ofInt 1)] σ30 (w, σ') := h
                    have e := ei_iret h rfl
                    cases e
                    exact ⟨rfl, rfl⟩
                · skip
                  have p32 := x153 hsσ25.1 r31
                  cases e
                  exact Or.inr ⟨b, gF_r r31 rfl hsσ25, p32, rfl⟩
            · skip
              have p27 := x156 hsσ20.1 r26
              cases e
              exact Or.inr ⟨b, gF_r r26 rfl hsσ20, p27, rfl⟩
        · skip
          have p22 := x155 hs.1 r21
          cases e
          exact Or.inr ⟨b, gF_r r21 rfl hs, p22, rfl⟩
    · skip
      replace hp6 : ¬ (((x3) - (x3) / (Int32.ofInt 5) * (Int32.ofInt 5)).toInt ≠ (0 : Int)) := (not_congr ic_ne).mp hp6
      refine Or.inr ⟨hp6, ?_⟩
      clear g
      replace h : EV F f 189 z189 81 [some (rf 11 (0)), some (.inl (x2)), some (.inl (x3)), some (.inl (n2))] [] σ (w, σ') := h
      replace h := ei_p h rfl rfl rfl rfl
      obtain ⟨f, g, h⟩ := h
      clear g
      replace h : EV F f 189 z189 82 [some (rf 11 (0)), some (.inl (x2)), some (.inl (x3)), some (.inl (n2))] [rf 11 (0)] σ (w, σ') := h
      replace h := ei_p h rfl rfl rfl rfl
      obtain ⟨f, g, h⟩ := h
      clear g
      replace h : EV F f 189 z189 84 [some (rf 11 (0)), some (.inl (x2)), some (.inl (x3)), some (.inl (n2))] [.inl (Int32.ofInt 15), rf 11 (0)] σ (w, σ') := h
      replace h := ei_p h rfl rfl rfl rfl
      obtain ⟨f, g, h⟩ := h
      clear g
      replace h : EV F f 189 z189 85 [some (rf 11 (0)), some (.inl (x2)), some (.inl (x3)), some (.inl (n2))] [.inl (Int32.ofInt 1), .inl (Int32.ofInt 15), rf 11 (0)] σ (w, σ') := h
      replace h := ei_p h rfl rfl rfl rfl
      obtain ⟨f, g, h⟩ := h
      clear g
      replace h : EV F f 189 z189 86 [some (rf 11 (0)), some (.inl (x2)), some (.inl (x3)), some (.inl (n2))] [.inl (Int32.ofInt 0), .inl (Int32.ofInt 1), .inl (Int32.ofInt 15), rf 11 (0)] σ (w, σ') := h
      replace h := ei_p h rfl rfl rfl rfl
      obtain ⟨f, g, h⟩ := h
      clear g
      replace h : EV F f 189 z189 87 [some (rf 11 (0)), some (.inl (x2)), some (.inl (x3)), some (.inl (n2))] [.inl (Int32.ofInt 0), .inl (Int32.ofInt 0), .inl (Int32.ofInt 1), .inl (Int32.ofInt 15), rf 11 (0)] σ (w, σ') := h
      replace h := ei_p h rfl rfl rfl rfl
      obtain ⟨f, g, h⟩ := h
      clear g
      replace h : EV F f 189 z189 88 [some (rf 11 (0)), some (.inl (x2)), some (.inl (x3)), some (.inl (n2))] [.inl (Int32.ofInt 0), .inl (Int32.ofInt 0), .inl (Int32.ofInt 0), .inl (Int32.ofInt 1), .inl (Int32.ofInt 15), rf 11 (0)] σ (w, σ') := h
      replace h := ei_p h rfl rfl rfl rfl
      obtain ⟨f, g, h⟩ := h
      clear g
      replace h : EV F f 189 z189 89 [some (rf 11 (0)), some (.inl (x2)), some (.inl (x3)), some (.inl (n2))] [.inl (Int32.ofInt 0), .inl (Int32.ofInt 0), .inl (Int32.ofInt 0), .inl (Int32.ofInt 0), .inl (Int32.ofInt 1), .inl (Int32.ofInt 15), rf 11 (0)] σ (w, σ') := h
      replace h := ei_p h rfl rfl rfl rfl
      obtain ⟨f, g, h⟩ := h
      clear g
      replace h : EV F f 189 z189 90 [some (rf 11 (0)), some (.inl (x2)), some (.inl (x3)), some (.inl (n2))] [.inl (Int32.ofInt 0), .inl (Int32.ofInt 0), .inl (Int32.ofInt 0), .inl (Int32.ofInt 0), .inl (Int32.ofInt 0), .inl (Int32.ofInt 1), .inl (Int32.ofInt 15), rf 11 (0)] σ (w, σ') := h
      replace h := ei_p h rfl rfl rfl rfl
      obtain ⟨f, g, h⟩ := h
      clear g
      replace h : EV F f 189 z189 91 [some (rf 11 (0)), some (.inl (x2)), some (.inl (x3)), some (.inl (n2))] [.inl (Int32.ofInt 0), .inl (Int32.ofInt 0), .inl (Int32.ofInt 0), .inl (Int32.ofInt 0), .inl (Int32.ofInt 0), .inl (Int32.ofInt 0), .inl (Int32.ofInt 1), .inl (Int32.ofInt 15), rf 11 (0)] σ (w, σ') := h
      replace h := bx_L (ei_s (as := [.inl (Int32.ofInt 0), .inl (Int32.ofInt 0), .inl (Int32.ofInt 0), .inl (Int32.ofInt 0), .inl (Int32.ofInt 0), .inl (Int32.ofInt 0), .inl (Int32.ofInt 1), .inl (Int32.ofInt 15), rf 11 (0)]) h rfl (Nat.le_of_ble_eq_true rfl) rfl rfl) z172_at rfl
      rcases h with ⟨v34, σ35, r36, f, g, h⟩ | ⟨b, σ35, r36, e⟩
      rotate_left
      · exact (nt172 (x172 hs r36)).elim
      clear g
      have p37 := x172 hs r36
      have hsσ35 : HL σ35 := hl172 p37
      refine ⟨v34, σ35, gF_r r36 rfl hs, hsσ35, p37, ?_⟩
      replace h : EV F f 189 z189 94 [some (rf 11 (0)), some (.inl (x2)), some (.inl (x3)), some (.inl (n2))] [.inr (.inl (v34))] σ35 (w, σ') := h
      replace h := ei_p h rfl rfl rfl rfl
      obtain ⟨f, g, h⟩ := h
      clear g
      replace h : EV F f 189 z189 97 [some (rf 11 (0)), some (.inl (x2)), some (.inl (x3)), some (.inl (n2))] [.inr (.inl (Int64.ofInt (-1000000000))), .inr (.inl (v34))] σ35 (w, σ') := h
      replace h := ei_p h rfl rfl rfl rfl
      obtain ⟨f, g, h⟩ := h
      clear g
      replace h : EV F f 189 z189 98 [some (rf 11 (0)), some (.inl (x2)), some (.inl (x3)), some (.inl (n2))] [.inl (lg_cmp (v34) (Int64.ofInt (-1000000000)))] σ35 (w, σ') := h
      replace h := ei_c h rfl rfl rfl
      rcases h with ⟨hp38, f, g, h⟩ | ⟨hp38, f, g, h⟩
      · skip
        replace hp38 : (v34).toInt < (Int64.ofInt (-1000000000)).toInt := (ab_lc .lt _ _).mp hp38
        refine Or.inl ⟨hp38, ?_⟩
        clear g
        replace h : EV F f 189 z189 105 [some (rf 11 (0)), some (.inl (x2)), some (.inl (x3)), some (.inl (n2))] [] σ35 (w, σ') := h
        replace h := ei_p h rfl rfl rfl rfl
        obtain ⟨f, g, h⟩ := h
        clear g
        replace h : EV F f 189 z189 106 [some (rf 11 (0)), some (.inl (x2)), some (.inl (x3)), some (.inl (n2))] [.inl (Int32.ofInt 0)] σ35 (w, σ') := h
        have e := ei_iret h rfl
        cases e
        exact ⟨rfl, rfl⟩
      · skip
        replace hp38 : ¬ ((v34).toInt < (Int64.ofInt (-1000000000)).toInt) := (not_congr (ab_lc .lt _ _)).mp hp38
        refine Or.inr ⟨hp38, ?_⟩
        clear g
        replace h : EV F f 189 z189 101 [some (rf 11 (0)), some (.inl (x2)), some (.inl (x3)), some (.inl (n2))] [] σ35 (w, σ') := h
        replace h := ei_p h rfl rfl rfl rfl
        obtain ⟨f, g, h⟩ := h
        clear g
        replace h : EV F f 189 z189 102 [some (rf 11 (0)), some (.inl (x2)), some (.inl (x3)), some (.inl (n2))] [.inl (Int32.ofInt 1)] σ35 (w, σ') := h
        replace h := ei_p h rfl rfl rfl rfl
        obtain ⟨f, g, h⟩ := h
        clear g
        replace h : EV F f 189 z189 106 [some (rf 11 (0)), some (.inl (x2)), some (.inl (x3)), some (.inl (n2))] [.inl (Int32.ofInt 1)] σ35 (w, σ') := h
        have e := ei_iret h rfl
        cases e
        exact ⟨rfl, rfl⟩
  · skip
    replace hp4 : ¬ ((n2).toInt ≠ (2 : Int)) := (not_congr ic_ne).mp hp4
    refine Or.inr ⟨hp4, ?_⟩
    clear g
    replace h : EV F f 189 z189 9 [some (rf 11 (0)), some (.inl (x2)), some (.inl (x3)), some (.inl (n2))] [] σ (w, σ') := h
    replace h := ei_p h rfl rfl rfl rfl
    obtain ⟨f, g, h⟩ := h
    clear g
    replace h : EV F f 189 z189 10 [some (rf 11 (0)), some (.inl (x2)), some (.inl (x3)), some (.inl (n2))] [rf 11 (0)] σ (w, σ') := h
    replace h := ei_p h rfl rfl rfl rfl
    obtain ⟨f, g, h⟩ := h
    clear g
    replace h : EV F f 189 z189 12 [some (rf 11 (0)), some (.inl (x2)), some (.inl (x3)), some (.inl (n2))] [.inl (Int32.ofInt 14), rf 11 (0)] σ (w, σ') := h
    replace h := ei_p h rfl rfl rfl rfl
    obtain ⟨f, g, h⟩ := h
    clear g
    replace h : EV F f 189 z189 13 [some (rf 11 (0)), some (.inl (x2)), some (.inl (x3)), some (.inl (n2))] [.inl (Int32.ofInt 2), .inl (Int32.ofInt 14), rf 11 (0)] σ (w, σ') := h
    replace h := ei_p h rfl rfl rfl rfl
    obtain ⟨f, g, h⟩ := h
    clear g
    replace h : EV F f 189 z189 14 [some (rf 11 (0)), some (.inl (x2)), some (.inl (x3)), some (.inl (n2))] [.inl (Int32.ofInt 0), .inl (Int32.ofInt 2), .inl (Int32.ofInt 14), rf 11 (0)] σ (w, σ') := h
    replace h := ei_p h rfl rfl rfl rfl
    obtain ⟨f, g, h⟩ := h
    clear g
    replace h : EV F f 189 z189 15 [some (rf 11 (0)), some (.inl (x2)), some (.inl (x3)), some (.inl (n2))] [.inl (Int32.ofInt 0), .inl (Int32.ofInt 0), .inl (Int32.ofInt 2), .inl (Int32.ofInt 14), rf 11 (0)] σ (w, σ') := h
    replace h := ei_p h rfl rfl rfl rfl
    obtain ⟨f, g, h⟩ := h
    clear g
    replace h : EV F f 189 z189 16 [some (rf 11 (0)), some (.inl (x2)), some (.inl (x3)), some (.inl (n2))] [.inl (Int32.ofInt 0), .inl (Int32.ofInt 0), .inl (Int32.ofInt 0), .inl (Int32.ofInt 2), .inl (Int32.ofInt 14), rf 11 (0)] σ (w, σ') := h
    replace h := ei_p h rfl rfl rfl rfl
    obtain ⟨f, g, h⟩ := h
    clear g
    replace h : EV F f 189 z189 17 [some (rf 11 (0)), some (.inl (x2)), some (.inl (x3)), some (.inl (n2))] [.inl (Int32.ofInt 0), .inl (Int32.ofInt 0), .inl (Int32.ofInt 0), .inl (Int32.ofInt 0), .inl (Int32.ofInt 2), .inl (Int32.ofInt 14), rf 11 (0)] σ (w, σ') := h
    replace h := ei_p h rfl rfl rfl rfl
    obtain ⟨f, g, h⟩ := h
    clear g
    replace h : EV F f 189 z189 18 [some (rf 11 (0)), some (.inl (x2)), some (.inl (x3)), some (.inl (n2))] [.inl (Int32.ofInt 0), .inl (Int32.ofInt 0), .inl (Int32.ofInt 0), .inl (Int32.ofInt 0), .inl (Int32.ofInt 0), .inl (Int32.ofInt 2), .inl (Int32.ofInt 14), rf 11 (0)] σ (w, σ') := h
    replace h := ei_p h rfl rfl rfl rfl
    obtain ⟨f, g, h⟩ := h
    clear g
    replace h : EV F f 189 z189 19 [some (rf 11 (0)), some (.inl (x2)), some (.inl (x3)), some (.inl (n2))] [.inl (Int32.ofInt 0), .inl (Int32.ofInt 0), .inl (Int32.ofInt 0), .inl (Int32.ofInt 0), .inl (Int32.ofInt 0), .inl (Int32.ofInt 0), .inl (Int32.ofInt 2), .inl (Int32.ofInt 14), rf 11 (0)] σ (w, σ') := h
    replace h := bx_L (ei_s (as := [.inl (Int32.ofInt 0), .inl (Int32.ofInt 0), .inl (Int32.ofInt 0), .inl (Int32.ofInt 0), .inl (Int32.ofInt 0), .inl (Int32.ofInt 0), .inl (Int32.ofInt 2), .inl (Int32.ofInt 14), rf 11 (0)]) h rfl (Nat.le_of_ble_eq_true rfl) rfl rfl) z172_at rfl
    rcases h with ⟨v39, σ40, r41, f, g, h⟩ | ⟨b, σ40, r41, e⟩
    rotate_left
    · exact (nt172 (x172 hs r41)).elim
    clear g
    have p42 := x172 hs r41
    have hsσ40 : HL σ40 := hl172 p42
    refine ⟨v39, σ40, gF_r r41 rfl hs, hsσ40, p42, ?_⟩
    replace h : EV F f 189 z189 22 [some (rf 11 (0)), some (.inl (x2)), some (.inl (x3)), some (.inl (n2))] [.inr (.inl (v39))] σ40 (w, σ') := h
    replace h := ei_p h rfl rfl rfl rfl
    obtain ⟨f, g, h⟩ := h
    clear g
    replace h : EV F f 189 z189 25 [some (rf 11 (0)), some (.inl (x2)), some (.inl (x3)), some (.inl (n2))] [.inr (.inl (Int64.ofInt (-3000000000))), .inr (.inl (v39))] σ40 (w, σ') := h
    replace h := ei_p h rfl rfl rfl rfl
    obtain ⟨f, g, h⟩ := h
    clear g
    replace h : EV F f 189 z189 26 [some (rf 11 (0)), some (.inl (x2)), some (.inl (x3)), some (.inl (n2))] [.inl (lg_cmp (v39) (Int64.ofInt (-3000000000)))] σ40 (w, σ') := h
    replace h := ei_c h rfl rfl rfl
    rcases h with ⟨hp43, f, g, h⟩ | ⟨hp43, f, g, h⟩
    · skip
      replace hp43 : (v39).toInt ≠ (Int64.ofInt (-3000000000)).toInt := (ab_lc .ne _ _).mp hp43
      refine Or.inl ⟨hp43, ?_⟩
      clear g
      replace h : EV F f 189 z189 73 [some (rf 11 (0)), some (.inl (x2)), some (.inl (x3)), some (.inl (n2))] [] σ40 (w, σ') := h
      exact j189_73 hsσ40 h
    · skip
      replace hp43 : ¬ ((v39).toInt ≠ (Int64.ofInt (-3000000000)).toInt) := (not_congr (ab_lc .ne _ _)).mp hp43
      refine Or.inr ⟨hp43, ?_⟩
      clear g
      replace h : EV F f 189 z189 29 [some (rf 11 (0)), some (.inl (x2)), some (.inl (x3)), some (.inl (n2))] [] σ40 (w, σ') := h
      replace h := ei_p h rfl rfl rfl rfl
      obtain ⟨f, g, h⟩ := h
      clear g
      replace h : EV F f 189 z189 30 [some (rf 11 (0)), some (.inl (x2)), some (.inl (x3)), some (.inl (n2))] [rf 11 (0)] σ40 (w, σ') := h
      replace h := ei_p h rfl rfl rfl rfl
      obtain ⟨f, g, h⟩ := h
      clear g
      replace h : EV F f 189 z189 32 [some (rf 11 (0)), some (.inl (x2)), some (.inl (x3)), some (.inl (n2))] [.inl (Int32.ofInt 15), rf 11 (0)] σ40 (w, σ') := h
      replace h := ei_p h rfl rfl rfl rfl
      obtain ⟨f, g, h⟩ := h
      clear g
      replace h : EV F f 189 z189 33 [some (rf 11 (0)), some (.inl (x2)), some (.inl (x3)), some (.inl (n2))] [.inl (Int32.ofInt 2), .inl (Int32.ofInt 15), rf 11 (0)] σ40 (w, σ') := h
      replace h := ei_p h rfl rfl rfl rfl
      obtain ⟨f, g, h⟩ := h
      clear g
      replace h : EV F f 189 z189 34 [some (rf 11 (0)), some (.inl (x2)), some (.inl (x3)), some (.inl (n2))] [.inl (Int32.ofInt 0), .inl (Int32.ofInt 2), .inl (Int32.ofInt 15), rf 11 (0)] σ40 (w, σ') := h
      replace h := ei_p h rfl rfl rfl rfl
      obtain ⟨f, g, h⟩ := h
      clear g
      replace h : EV F f 189 z189 35 [some (rf 11 (0)), some (.inl (x2)), some (.inl (x3)), some (.inl (n2))] [.inl (Int32.ofInt 0), .inl (Int32.ofInt 0), .inl (Int32.ofInt 2), .inl (Int32.ofInt 15), rf 11 (0)] σ40 (w, σ') := h
      replace h := ei_p h rfl rfl rfl rfl
      obtain ⟨f, g, h⟩ := h
      clear g
      replace h : EV F f 189 z189 36 [some (rf 11 (0)), some (.inl (x2)), some (.inl (x3)), some (.inl (n2))] [.inl (Int32.ofInt 0), .inl (Int32.ofInt 0), .inl (Int32.ofInt 0), .inl (Int32.ofInt 2), .inl (Int32.ofInt 15), rf 11 (0)] σ40 (w, σ') := h
      replace h := ei_p h rfl rfl rfl rfl
      obtain ⟨f, g, h⟩ := h
      clear g
      replace h : EV F f 189 z189 37 [some (rf 11 (0)), some (.inl (x2)), some (.inl (x3)), some (.inl (n2))] [.inl (Int32.ofInt 0), .inl (Int32.ofInt 0), .inl (Int32.ofInt 0), .inl (Int32.ofInt 0), .inl (Int32.ofInt 2), .inl (Int32.ofInt 15), rf 11 (0)] σ40 (w, σ') := h
      replace h := ei_p h rfl rfl rfl rfl
      obtain ⟨f, g, h⟩ := h
      clear g
      replace h : EV F f 189 z189 38 [some (rf 11 (0)), some (.inl (x2)), some (.inl (x3)), some (.inl (n2))] [.inl (Int32.ofInt 0), .inl (Int32.ofInt 0), .inl (Int32.ofInt 0), .inl (Int32.ofInt 0), .inl (Int32.ofInt 0), .inl (Int32.ofInt 2), .inl (Int32.ofInt 15), rf 11 (0)] σ40 (w, σ') := h
      replace h := ei_p h rfl rfl rfl rfl
      obtain ⟨f, g, h⟩ := h
      clear g
      replace h : EV F f 189 z189 39 [some (rf 11 (0)), some (.inl (x2)), some (.inl (x3)), some (.inl (n2))] [.inl (Int32.ofInt 0), .inl (Int32.ofInt 0), .inl (Int32.ofInt 0), .inl (Int32.ofInt 0), .inl (Int32.ofInt 0), .inl (Int32.ofInt 0), .inl (Int32.ofInt 2), .inl (Int32.ofInt 15), rf 11 (0)] σ40 (w, σ') := h
      replace h := bx_L (ei_s (as := [.inl (Int32.ofInt 0), .inl (Int32.ofInt 0), .inl (Int32.ofInt 0), .inl (Int32.ofInt 0), .inl (Int32.ofInt 0), .inl (Int32.ofInt 0), .inl (Int32.ofInt 2), .inl (Int32.ofInt 15), rf 11 (0)]) h rfl (Nat.le_of_ble_eq_true rfl) rfl rfl) z172_at rfl
      rcases h with ⟨v44, σ45, r46, f, g, h⟩ | ⟨b, σ45, r46, e⟩
      rotate_left
      · exact (nt172 (x172 hsσ40 r46)).elim
      clear g
      have p47 := x172 hsσ40 r46
      have hsσ45 : HL σ45 := hl172 p47
      refine ⟨v44, σ45, gF_r r46 rfl hsσ40, hsσ45, p47, ?_⟩
      replace h : EV F f 189 z189 42 [some (rf 11 (0)), some (.inl (x2)), some (.inl (x3)), some (.inl (n2))] [.inr (.inl (v44))] σ45 (w, σ') := h
      replace h := ei_p h rfl rfl rfl rfl
      obtain ⟨f, g, h⟩ := h
      clear g
      replace h : EV F f 189 z189 45 [some (rf 11 (0)), some (.inl (x2)), some (.inl (x3)), some (.inl (n2))] [.inr (.inl (Int64.ofInt (-3000000000))), .inr (.inl (v44))] σ45 (w, σ') := h
      replace h := ei_p h rfl rfl rfl rfl
      obtain ⟨f, g, h⟩ := h
      clear g
      replace h : EV F f 189 z189 46 [some (rf 11 (0)), some (.inl (x2)), some (.inl (x3)), some (.inl (n2))] [.inl (lg_cmp (v44) (Int64.ofInt (-3000000000)))] σ45 (w, σ') := h
      replace h := ei_c h rfl rfl rfl
      rcases h with ⟨hp48, f, g, h⟩ | ⟨hp48, f, g, h⟩
      · skip
        replace hp48 : (v44).toInt ≠ (Int64.ofInt (-3000000000)).toInt := (ab_lc .ne _ _).mp hp48
        refine Or.inl ⟨hp48, ?_⟩
        clear g
        replace h : EV F f 189 z189 73 [some (rf 11 (0)), some (.inl (x2)), some (.inl (x3)), some (.inl (n2))] [] σ45 (w, σ') := h
        exact j189_73 hsσ45 h
      · skip
        replace hp48 : ¬ ((v44).toInt ≠ (Int64.ofInt (-3000000000)).toInt) := (not_congr (ab_lc .ne _ _)).mp hp48
        refine Or.inr ⟨hp48, ?_⟩
        clear g
        replace h : EV F f 189 z189 49 [some (rf 11 (0)), some (.inl (x2)), some (.inl (x3)), some (.inl (n2))] [] σ45 (w, σ') := h
        replace h := ei_p h rfl rfl rfl rfl
        obtain ⟨f, g, h⟩ := h
        clear g
        replace h : EV F f 189 z189 50 [some (rf 11 (0)), some (.inl (x2)), some (.inl (x3)), some (.inl (n2))] [rf 11 (0)] σ45 (w, σ') := h
        replace h := ei_p h rfl rfl rfl rfl
        obtain ⟨f, g, h⟩ := h
        clear g
        replace h : EV F f 189 z189 52 [some (rf 11 (0)), some (.inl (x2)), some (.inl (x3)), some (.inl (n2))] [.inl (Int32.ofInt 16), rf 11 (0)] σ45 (w, σ') := h
        replace h := ei_p h rfl rfl rfl rfl
        obtain ⟨f, g, h⟩ := h
        clear g
        replace h : EV F f 189 z189 53 [some (rf 11 (0)), some (.inl (x2)), some (.inl (x3)), some (.inl (n2))] [.inl (Int32.ofInt 2), .inl (Int32.ofInt 16), rf 11 (0)] σ45 (w, σ') := h
        replace h := ei_p h rfl rfl rfl rfl
        obtain ⟨f, g, h⟩ := h
        clear g
        replace h : EV F f 189 z189 54 [some (rf 11 (0)), some (.inl (x2)), some (.inl (x3)), some (.inl (n2))] [.inl (Int32.ofInt 0), .inl (Int32.ofInt 2), .inl (Int32.ofInt 16), rf 11 (0)] σ45 (w, σ') := h
        replace h := ei_p h rfl rfl rfl rfl
        obtain ⟨f, g, h⟩ := h
        clear g
        replace h : EV F f 189 z189 55 [some (rf 11 (0)), some (.inl (x2)), some (.inl (x3)), some (.inl (n2))] [.inl (Int32.ofInt 0), .inl (Int32.ofInt 0), .inl (Int32.ofInt 2), .inl (Int32.ofInt 16), rf 11 (0)] σ45 (w, σ') := h
        replace h := ei_p h rfl rfl rfl rfl
        obtain ⟨f, g, h⟩ := h
        clear g
        replace h : EV F f 189 z189 56 [some (rf 11 (0)), some (.inl (x2)), some (.inl (x3)), some (.inl (n2))] [.inl (Int32.ofInt 0), .inl (Int32.ofInt 0), .inl (Int32.ofInt 0), .inl (Int32.ofInt 2), .inl (Int32.ofInt 16), rf 11 (0)] σ45 (w, σ') := h
        replace h := ei_p h rfl rfl rfl rfl
        obtain ⟨f, g, h⟩ := h
        clear g
        replace h : EV F f 189 z189 57 [some (rf 11 (0)), some (.inl (x2)), some (.inl (x3)), some (.inl (n2))] [.inl (Int32.ofInt 0), .inl (Int32.ofInt 0), .inl (Int32.ofInt 0), .inl (Int32.ofInt 0), .inl (Int32.ofInt 2), .inl (Int32.ofInt 16), rf 11 (0)] σ45 (w, σ') := h
        replace h := ei_p h rfl rfl rfl rfl
        obtain ⟨f, g, h⟩ := h
        clear g
        replace h : EV F f 189 z189 58 [some (rf 11 (0)), some (.inl (x2)), some (.inl (x3)), some (.inl (n2))] [.inl (Int32.ofInt 0), .inl (Int32.ofInt 0), .inl (Int32.ofInt 0), .inl (Int32.ofInt 0), .inl (Int32.ofInt 0), .inl (Int32.ofInt 2), .inl (Int32.ofInt 16), rf 11 (0)] σ45 (w, σ') := h
        replace h := ei_p h rfl rfl rfl rfl
        obtain ⟨f, g, h⟩ := h
        clear g
        replace h : EV F f 189 z189 59 [some (rf 11 (0)), some (.inl (x2)), some (.inl (x3)), some (.inl (n2))] [.inl (Int32.ofInt 0), .inl (Int32.ofInt 0), .inl (Int32.ofInt 0), .inl (Int32.ofInt 0), .inl (Int32.ofInt 0), .inl (Int32.ofInt 0), .inl (Int32.ofInt 2), .inl (Int32.ofInt 16), rf 11 (0)] σ45 (w, σ') := h
        replace h := bx_L (ei_s (as := [.inl (Int32.ofInt 0), .inl (Int32.ofInt 0), .inl (Int32.ofInt 0), .inl (Int32.ofInt 0), .inl (Int32.ofInt 0), .inl (Int32.ofInt 0), .inl (Int32.ofInt 2), .inl (Int32.ofInt 16), rf 11 (0)]) h rfl (Nat.le_of_ble_eq_true rfl) rfl rfl) z172_at rfl
        rcases h with ⟨v49, σ50, r51, f, g, h⟩ | ⟨b, σ50, r51, e⟩
        rotate_left
        · exact (nt172 (x172 hsσ45 r51)).elim
        clear g
        have p52 := x172 hsσ45 r51
        have hsσ50 : HL σ50 := hl172 p52
        refine ⟨v49, σ50, gF_r r51 rfl hsσ45, hsσ50, p52, ?_⟩
        replace h : EV F f 189 z189 62 [some (rf 11 (0)), some (.inl (x2)), some (.inl (x3)), some (.inl (n2))] [.inr (.inl (v49))] σ50 (w, σ') := h
        replace h := ei_p h rfl rfl rfl rfl
        obtain ⟨f, g, h⟩ := h
        clear g
        replace h : EV F f 189 z189 65 [some (rf 11 (0)), some (.inl (x2)), some (.inl (x3)), some (.inl (n2))] [.inr (.inl (Int64.ofInt (-3000000000))), .inr (.inl (v49))] σ50 (w, σ') := h
        replace h := ei_p h rfl rfl rfl rfl
        obtain ⟨f, g, h⟩ := h
        clear g
        replace h : EV F f 189 z189 66 [some (rf 11 (0)), some (.inl (x2)), some (.inl (x3)), some (.inl (n2))] [.inl (lg_cmp (v49) (Int64.ofInt (-3000000000)))] σ50 (w, σ') := h
        replace h := ei_c h rfl rfl rfl
        rcases h with ⟨hp53, f, g, h⟩ | ⟨hp53, f, g, h⟩
        · skip
          replace hp53 : (v49).toInt ≠ (Int64.ofInt (-3000000000)).toInt := (ab_lc .ne _ _).mp hp53
          refine Or.inl ⟨hp53, ?_⟩
          clear g
          replace h : EV F f 189 z189 73 [some (rf 11 (0)), some (.inl (x2)), some (.inl (x3)), some (.inl (n2))] [] σ50 (w, σ') := h
          exact j189_73 hsσ50 h
        · skip
          replace hp53 : ¬ ((v49).toInt ≠ (Int64.ofInt (-3000000000)).toInt) := (not_congr (ab_lc .ne _ _)).mp hp53
          refine Or.inr ⟨hp53, ?_⟩
          clear g
          replace h : EV F f 189 z189 69 [some (rf 11 (0)), some (.inl (x2)), some (.inl (x3)), some (.inl (n2))] [] σ50 (w, σ') := h
          replace h := ei_p h rfl rfl rfl rfl
          obtain ⟨f, g, h⟩ := h
          clear g
          replace h : EV F f 189 z189 70 [some (rf 11 (0)), some (.inl (x2)), some (.inl (x3)), some (.inl (n2))] [.inl (Int32.ofInt 1)] σ50 (w, σ') := h
          replace h := ei_p h rfl rfl rfl rfl
          obtain ⟨f, g, h⟩ := h
          clear g
          replace h : EV F f 189 z189 74 [some (rf 11 (0)), some (.inl (x2)), some (.inl (x3)), some (.inl (n2))] [.inl (Int32.ofInt 1)] σ50 (w, σ') := h
          have e := ei_iret h rfl
          cases e
          exact ⟨rfl, rfl⟩
