/-! one step of the analysis holds of the model's step -/
section ACC
variable {xs : ab_X} {C : ab_C} {ν : ab_N} {kp : ac_Kp} {σ0 : mS} {H : ac_H} {σ : mS} {L : List (Option ab_V)} {Lc : List (Option mV)} {st : List ab_V} {sc : List mV} {pc k n : Nat} {r : mRow} {o : ac_Wt} {K : Nat → List (Option mV) → List mV → mS → Nat → Nat → Prop} {Q : mX → mS → Prop} {CP : Nat → List mV → List mV → Prop} {R : Room}
theorem ac_iast_ok (h : ab_cx xs C ν) (hL : ab_Ls C.1.length ν L Lc) (hst : ab_Vs C.1.length ν st sc) (hp : ac_hp kp σ0 C.1.length ν H σ) (hh : ac_ast kp 13 pc C L st H k n = some o) (hs : ac_sem kp σ0 xs C ν K Q CP o) : m_s_iast σ sc (fun st σ => K (pc + 1) Lc st σ k n) := by
  obtain ⟨v, x, p, s', rfl, h1, h2, h3, h4⟩ := ac_ast_ok (by decide) h hL hst hp hh hs
  rcases v with w | w | w
  · exact ⟨h1, h3, h4⟩
  · exact absurd (show (0 : Nat) = 1 from h2) (by decide)
  · exact absurd (show (0 : Nat) = 2 from h2) (by decide)
theorem ac_last_ok (h : ab_cx xs C ν) (hL : ab_Ls C.1.length ν L Lc) (hst : ab_Vs C.1.length ν st sc) (hp : ac_hp kp σ0 C.1.length ν H σ) (hh : ac_ast kp 14 pc C L st H k n = some o) (hs : ac_sem kp σ0 xs C ν K Q CP o) : m_s_last σ sc (fun st σ => K (pc + 1) Lc st σ k n) := by
  obtain ⟨v, x, p, s', rfl, h1, h2, h3, h4⟩ := ac_ast_ok (by decide) h hL hst hp hh hs
  rcases v with w | w | w
  · have h2' : (1 : Nat) = 0 ∨ ((1 : Nat) = 3 ∧ _) := h2
    rcases h2' with h2' | h2'
    · cases h2'
    · exact absurd h2'.1 (by decide)
  · exact ⟨h1, h3, h4⟩
  · exact absurd (show (1 : Nat) = 2 from h2) (by decide)
theorem ac_astq_ok (h : ab_cx xs C ν) (hL : ab_Ls C.1.length ν L Lc) (hst : ab_Vs C.1.length ν st sc) (hp : ac_hp kp σ0 C.1.length ν H σ) (hh : ac_astq kp pc C L st H k n = some o) (hs : ac_sem kp σ0 xs C ν K Q CP o) : m_s_astq σ sc (fun st σ => K (pc + 1) Lc st σ k n) := by
  unfold ac_astq at hh
  split at hh
  · rename_i d e z st'
    cases hb : (Nat.ble 16 z.1 && (Nat.ble z.1 20 && (ab_nn C d && Nat.beq d.1 (m_el z.1)))) with
    | false => rw [hb] at hh; cases hh
    | true =>
    rw [hb] at hh
    rw [Bool.and_eq_true, Bool.and_eq_true, Bool.and_eq_true, Nat.ble_eq, Nat.ble_eq] at hb
    obtain ⟨b1, b2, b3, b4⟩ := hb
    obtain ⟨v, x, p, s', e0, h1, h2, h3, h4⟩ := ac_ast_ok (by omega) h hL hst hp hh hs
    obtain ⟨w, s1, rfl, g1, g2⟩ := ab_Vs_a hst
    obtain ⟨q, rfl, g3, g4⟩ := ab_R_some h g1 b3
    cases e0
    have e2 := Nat.eq_of_beq_eq_true b4
    rw [← h1] at b1 b2 h3 h4 e2
    exact ⟨g3.trans e2, ⟨b1, b2⟩, h3, h4⟩
  · cases hh
theorem ac_newo_ok {nL mc ms : Nat} (h : ab_cx xs C ν) (hL : ab_Ls C.1.length ν L Lc) (hst : ab_Vs C.1.length ν st sc) (hp : ac_hp kp σ0 C.1.length ν H σ) (hh : ac_newo kp R nL mc ms r pc C L st H k n = some o) (hs : ac_sem kp σ0 xs C ν K Q CP o) :
    if r.2.2.1 < 13 then m_rm R (k + 1) (n + m_nf r.2.2.1) ∧ K (pc + 3) Lc (.inr (.inr (some (r.2.2.1, σ.1 r.2.2.1))) :: sc) (m_nu σ r.2.2.1 0) (k + 1) (n + m_nf r.2.2.1)
      else Lc.length = nL ∧ 5 < R.frames ∧ (sc.map m_cat).sum + 82 ≤ R.locals ∧ m_rm R (k + 1) (n + 6) ∧ k + 1 ≤ mc ∧ n + 6 ≤ ms ∧ Q (.inr (r.2.2.1 - 100)) σ := by
  unfold ac_newo at hh
  cases hb : Nat.blt r.2.2.1 13 with
  | true =>
    rw [hb] at hh
    rw [Nat.blt_eq] at hb
    rw [if_pos hb]
    dsimp only [cond_true] at hh
    cases hd : (Nat.beq r.2.2.1 1 && ab_rm R (k + 1) (n + m_nf 1)) with
    | false => rw [hd] at hh; cases hh
    | true =>
      rw [hd] at hh
      rw [Bool.and_eq_true] at hd
      have e1 := Nat.eq_of_beq_eq_true hd.1
      dsimp only [cond_true] at hh
      rw [e1]
      cases hc : H.1 with
      | none => rw [hc] at hh; cases hh
      | some e =>
        rw [hc] at hh
        dsimp only at hh
        cases hw : ac_nw kp C H e with
        | none => rw [hw] at hh; cases hh
        | some H' =>
          rw [hw] at hh
          obtain ⟨g1, g⟩ := ac_nw_ok h hp hc hw
          have hz : ab_R C.1.length ν (1, e, (0, 1)) (some (1, σ.1 1)) := ⟨g.1, h.2.1, by show ν 0 + 1 = 1; rw [h.1.1]; rfl, rfl, g.2⟩
          exact ⟨ab_rm_ok hd.2, ac_1_ok hh hs (ab_up.rf h) hL ⟨hz, hst⟩ g1⟩
  | false =>
    rw [hb] at hh
    have hb' : ¬ r.2.2.1 < 13 := fun z => by rw [Nat.blt_eq.mpr z] at hb; cases hb
    rw [if_neg hb']
    dsimp only [cond_false] at hh
    cases hc : (Nat.beq L.length nL && (Nat.blt 5 R.frames && (Nat.ble (ab_sum st + 82) R.locals && (ab_rm R (k + 1) (n + 6) && (Nat.ble (k + 1) mc && Nat.ble (n + 6) ms))))) with
    | false => rw [hc] at hh; cases hh
    | true =>
      rw [hc] at hh
      cases hh
      simp only [Bool.and_eq_true, Nat.ble_eq, Nat.blt_eq] at hc
      obtain ⟨c1, c2, c3, c4, c5, c6⟩ := hc
      exact ⟨hL.1.trans (Nat.eq_of_beq_eq_true c1), c2, by rw [ab_sum_ok hst]; exact c3, ab_rm_ok c4, c5, c6, hs ν _ σ (ab_up.rf h) rfl hp⟩
theorem ac_callV_ok {y : mMt} {CC : Nat → List mV → mS → (mX → mS → Prop) → Prop} {T : mS → Nat → Nat → Nat → Prop} {F : List mV → mS → Nat → Nat → Prop} (h : ab_cx xs C ν) (hst : ab_Vs C.1.length ν st sc) (hh : ac_callV R y r C st k n = some o)
    (hs : ∀ c, o = .inr (.inr c) → ∀ avs sc', ab_Vs C.1.length ν c.2.1 avs → ab_Vs C.1.length ν c.2.2 sc' → CC c.1 avs σ (m_s_end T F sc' k n y)) : m_s_callV CC R T y r σ sc k n F := by
  unfold ac_callV at hh
  split at hh
  · rename_i z st' hd
    cases hb : (Nat.beq z.1 (m_p r 5) && (ab_nn C z && (Nat.beq (st.take r.2.2.2.1).length r.2.2.2.1 && (Nat.ble (ab_sum st') 8 && ab_rm R (k + y.2.2.2.2.1.cells) (n + y.2.2.2.2.1.slots))))) with
    | false => rw [hb] at hh; cases hh
    | true =>
    rw [hb] at hh
    cases hh
    simp only [Bool.and_eq_true, Nat.ble_eq] at hb
    obtain ⟨b1, b2, b3, b4, b5⟩ := hb
    have g := ab_Vs_drop (i := r.2.2.2.1) hst
    rw [hd] at g
    obtain ⟨w, s', e0, g1, g2⟩ := ab_Vs_a g
    obtain ⟨p, rfl, g3, g4⟩ := ab_R_some h g1 b2
    have gt := ab_Vs_take (i := r.2.2.2.1) hst
    have e1 := Nat.eq_of_beq_eq_true b1
    unfold m_s_callV
    rw [e0]
    refine ⟨g3.trans e1, (ab_Vs_len gt).trans (Nat.eq_of_beq_eq_true b3), by rw [ab_sum_ok g2]; exact b4, ab_rm_ok b5, hs _ rfl _ _ ⟨?_, ab_Vs_rev gt⟩ g2⟩
    have e2 : (some (m_p r 5, p.2) : mR) = some p := congrArg some (Prod.ext (by show m_p r 5 = p.1; rw [g3, e1]) rfl)
    rw [e2]
    exact g1
  · cases hh
theorem ac_callS_ok {y : mMt} {CC : Nat → List mV → mS → (mX → mS → Prop) → Prop} {T : mS → Nat → Nat → Nat → Prop} {F : List mV → mS → Nat → Nat → Prop} (hst : ab_Vs C.1.length ν st sc) (hh : ac_callS R y r st k n = some o)
    (hs : ∀ c, o = .inr (.inr c) → ∀ avs sc', ab_Vs C.1.length ν c.2.1 avs → ab_Vs C.1.length ν c.2.2 sc' → CC c.1 avs σ (m_s_end T F sc' k n y)) : m_s_callS CC R T y r σ sc k n F := by
  unfold ac_callS at hh
  cases hb : (Nat.beq (st.take r.2.2.2.1).length r.2.2.2.1 && (Nat.ble (ab_sum (st.drop r.2.2.2.1)) 8 && ab_rm R (k + y.2.2.2.2.1.cells) (n + y.2.2.2.2.1.slots))) with
  | false => rw [hb] at hh; cases hh
  | true =>
    rw [hb] at hh
    cases hh
    simp only [Bool.and_eq_true, Nat.ble_eq] at hb
    obtain ⟨b3, b4, b5⟩ := hb
    have gt := ab_Vs_take (i := r.2.2.2.1) hst
    have gd := ab_Vs_drop (i := r.2.2.2.1) hst
    exact ⟨(ab_Vs_len gt).trans (Nat.eq_of_beq_eq_true b3), by rw [ab_sum_ok gd]; exact b4, ab_rm_ok b5, hs _ rfl _ _ (ab_Vs_rev gt) gd⟩
theorem ac_math_ok {a : Nat} (h : ab_cx xs C ν) (hL : ab_Ls C.1.length ν L Lc) (hst : ab_Vs C.1.length ν st sc) (hp : ac_hp kp σ0 C.1.length ν H σ) (hh : ac_math R a pc C L st H k n = some o) (hs : ac_sem kp σ0 xs C ν K Q CP o) : m_s_math R a sc (fun st => K (pc + 3) Lc st σ k n) := by
  unfold ac_math at hh
  split at hh
  · rename_i f e st'
    cases hb : Nat.ble (ab_sum st' + 13) R.locals with
    | false => rw [hb] at hh; cases hh
    | true =>
    rw [hb] at hh
    obtain ⟨y, s1, rfl, g1, g2⟩ := ab_Vs_i hst
    obtain ⟨x, s', rfl, g3, g4⟩ := ab_Vs_i g2
    obtain ⟨ν', u, g⟩ := ab_max_ok (z := (if x < y then y else x).toInt) h g3 g1 ⟨fun z => by
      by_cases q : x < y
      · rw [if_pos q]
      · rw [if_neg q]
        rw [Int32.lt_iff_toInt_lt] at q
        omega, fun z => by
      rw [if_neg (fun q => by rw [Int32.lt_iff_toInt_lt] at q; omega)]⟩
    exact ⟨ab_sumle g4 hb, ac_1_ok hh hs u (hL.ex u.2.1 u.2.2) ⟨g, g4.ex u.2.1 u.2.2⟩ (hp.ex u.2.1 u.2.2)⟩
  · rename_i f e st'
    cases hb : Nat.ble (ab_sum st' + 13) R.locals with
    | false => rw [hb] at hh; cases hh
    | true =>
    rw [hb] at hh
    obtain ⟨y, s1, rfl, g1, g2⟩ := ab_Vs_i hst
    obtain ⟨x, s', rfl, g3, g4⟩ := ab_Vs_i g2
    obtain ⟨ν', u, g⟩ := ab_min_ok (z := (if y < x then y else x).toInt) h g3 g1 ⟨fun z => by
      rw [if_neg (fun q => by rw [Int32.lt_iff_toInt_lt] at q; omega)], fun z => by
      by_cases q : y < x
      · rw [if_pos q]
      · rw [if_neg q]
        rw [Int32.lt_iff_toInt_lt] at q
        omega⟩
    exact ⟨ab_sumle g4 hb, ac_1_ok hh hs u (hL.ex u.2.1 u.2.2) ⟨g, g4.ex u.2.1 u.2.2⟩ (hp.ex u.2.1 u.2.2)⟩
  · rename_i e st'
    cases hb : Nat.ble (ab_sum st' + 13) R.locals with
    | false => rw [hb] at hh; cases hh
    | true =>
    rw [hb] at hh
    obtain ⟨x, s', rfl, g3, g4⟩ := ab_Vs_i hst
    obtain ⟨ν', u, g⟩ := ab_abs_ok h g3
    exact ⟨ab_sumle g4 hb, ac_1_ok hh hs u (hL.ex u.2.1 u.2.2) ⟨g, g4.ex u.2.1 u.2.2⟩ (hp.ex u.2.1 u.2.2)⟩
  · rename_i f e st'
    cases hb : Nat.ble (ab_sum st' + 15) R.locals with
    | false => rw [hb] at hh; cases hh
    | true =>
    rw [hb] at hh
    obtain ⟨y, s1, rfl, g1, g2⟩ := ab_Vs_l hst
    obtain ⟨x, s', rfl, g3, g4⟩ := ab_Vs_l g2
    obtain ⟨ν', u, g⟩ := ab_max_ok (z := (if y < x then x else y).toInt) h g3 g1 ⟨fun z => by
      rw [if_neg (fun q => by rw [Int64.lt_iff_toInt_lt] at q; omega)], fun z => by
      by_cases q : y < x
      · rw [if_pos q]
      · rw [if_neg q]
        rw [Int64.lt_iff_toInt_lt] at q
        omega⟩
    exact ⟨ab_sumle g4 hb, ac_1_ok hh hs u (hL.ex u.2.1 u.2.2) ⟨g, g4.ex u.2.1 u.2.2⟩ (hp.ex u.2.1 u.2.2)⟩
  · rename_i f e st'
    cases hb : Nat.ble (ab_sum st' + 15) R.locals with
    | false => rw [hb] at hh; cases hh
    | true =>
    rw [hb] at hh
    obtain ⟨y, s1, rfl, g1, g2⟩ := ab_Vs_l hst
    obtain ⟨x, s', rfl, g3, g4⟩ := ab_Vs_l g2
    obtain ⟨ν', u, g⟩ := ab_min_ok (z := (if y < x then y else x).toInt) h g3 g1 ⟨fun z => by
      rw [if_neg (fun q => by rw [Int64.lt_iff_toInt_lt] at q; omega)], fun z => by
      by_cases q : y < x
      · rw [if_pos q]
      · rw [if_neg q]
        rw [Int64.lt_iff_toInt_lt] at q
        omega⟩
    exact ⟨ab_sumle g4 hb, ac_1_ok hh hs u (hL.ex u.2.1 u.2.2) ⟨g, g4.ex u.2.1 u.2.2⟩ (hp.ex u.2.1 u.2.2)⟩
  · cases hh
theorem ac_obj_ok (h : ab_cx xs C ν) (hL : ab_Ls C.1.length ν L Lc) (hst : ab_Vs C.1.length ν st sc) (hp : ac_hp kp σ0 C.1.length ν H σ) (hh : ac_obj R pc C L st H k n = some o) (hs : ac_sem kp σ0 xs C ν K Q CP o) : m_s_obj R sc (fun st => K (pc + 3) Lc st σ k n) := by
  unfold ac_obj at hh
  split at hh
  · rename_i z st'
    cases hb : (ab_nn C z && Nat.ble (ab_sum st' + 12) R.locals) with
    | false => rw [hb] at hh; cases hh
    | true =>
      rw [hb] at hh
      rw [Bool.and_eq_true] at hb
      obtain ⟨y, s', rfl, g1, g2⟩ := ab_Vs_a hst
      obtain ⟨p, rfl, h1, h2⟩ := ab_R_some h g1 hb.1
      exact ⟨ab_sumle g2 hb.2, ac_1_ok hh hs (ab_up.rf h) hL g2 hp⟩
  · cases hh
theorem ac_iret_ok {rt : Option FieldType} (h : ab_cx xs C ν) (hst : ab_Vs C.1.length ν st sc) (hp : ac_hp kp σ0 C.1.length ν H σ) (hh : ac_iret rt C st H = some o) (hs : ac_sem kp σ0 xs C ν K Q CP o) : m_s_iret rt sc (fun v => Q (.inl (some (.inl v))) σ) := by
  unfold ac_iret at hh
  split at hh
  · rename_i e
    cases hb : (Nat.beq (ab_rt rt) 1 || (Nat.beq (ab_rt rt) 2 && (ab_le 0 (ab_iv C.1 e).1 && ab_le (ab_iv C.1 e).2 1))) with
    | false => rw [hb] at hh; cases hh
    | true =>
      rw [hb] at hh
      cases hh
      simp only [Bool.or_eq_true, Bool.and_eq_true, ab_le_ok] at hb
      obtain ⟨x, s', rfl, g1, g2⟩ := ab_Vs_i hst
      have e1 := ab_Vs_0 g2
      subst e1
      refine ⟨?_, hs ν _ σ (ab_up.rf h) g1 hp⟩
      rcases hb with hb | ⟨hb, b1, b2⟩
      · have e2 := Nat.eq_of_beq_eq_true hb
        refine Or.inl ?_
        unfold ab_rt at e2
        split at e2 <;> first | rfl | (exact absurd e2 (by decide))
      · have e2 := Nat.eq_of_beq_eq_true hb
        have b := ab_iv_ok h.1 g1
        refine Or.inr ⟨?_, ?_⟩
        · unfold ab_rt at e2
          split at e2 <;> first | rfl | (exact absurd e2 (by decide))
        · have h4 : x.toInt = 0 ∨ x.toInt = 1 := by omega
          rcases h4 with h4 | h4
          · exact Or.inl (Int32.toInt_inj.mp h4)
          · exact Or.inr (Int32.toInt_inj.mp h4)
  · cases hh
theorem ac_lret_ok {rt : Option FieldType} (h : ab_cx xs C ν) (hst : ab_Vs C.1.length ν st sc) (hp : ac_hp kp σ0 C.1.length ν H σ) (hh : ac_lret rt C st H = some o) (hs : ac_sem kp σ0 xs C ν K Q CP o) : m_s_lret rt sc (fun v => Q (.inl (some (.inr (.inl v)))) σ) := by
  unfold ac_lret at hh
  split at hh
  · rename_i e
    cases hb : Nat.beq (ab_rt rt) 3 with
    | false => rw [hb] at hh; cases hh
    | true =>
      rw [hb] at hh
      cases hh
      obtain ⟨x, s', rfl, g1, g2⟩ := ab_Vs_l hst
      have e1 := ab_Vs_0 g2
      subst e1
      refine ⟨?_, hs ν _ σ (ab_up.rf h) g1 hp⟩
      have e2 := Nat.eq_of_beq_eq_true hb
      unfold ab_rt at e2
      split at e2 <;> first | rfl | (exact absurd e2 (by decide))
  · cases hh
theorem ac_aret_ok {rt : Option FieldType} (h : ab_cx xs C ν) (hst : ab_Vs C.1.length ν st sc) (hp : ac_hp kp σ0 C.1.length ν H σ) (hh : ac_aret rt C st H = some o) (hs : ac_sem kp σ0 xs C ν K Q CP o) : m_s_aret rt sc (fun v => Q (.inl (some (.inr (.inr v)))) σ) := by
  unfold ac_aret at hh
  split at hh
  · rename_i e
    cases hb : Nat.beq (ab_rt rt) 4 with
    | false => rw [hb] at hh; cases hh
    | true =>
      rw [hb] at hh
      cases hh
      obtain ⟨x, s', rfl, g1, g2⟩ := ab_Vs_a hst
      have e1 := ab_Vs_0 g2
      subst e1
      refine ⟨?_, hs ν _ σ (ab_up.rf h) g1 hp⟩
      have e2 := Nat.eq_of_beq_eq_true hb
      unfold ab_rt at e2
      split at e2 <;> first | rfl | (exact absurd e2 (by decide))
  · cases hh
theorem ac_vret_ok {rt : Option FieldType} (h : ab_cx xs C ν) (hst : ab_Vs C.1.length ν st sc) (hp : ac_hp kp σ0 C.1.length ν H σ) (hh : ac_vret rt C st H = some o) (hs : ac_sem kp σ0 xs C ν K Q CP o) : rt = none ∧ sc = [] ∧ Q (.inl none) σ := by
  unfold ac_vret at hh
  split at hh
  · cases hb : Nat.beq (ab_rt rt) 0 with
    | false => rw [hb] at hh; cases hh
    | true =>
      rw [hb] at hh
      cases hh
      refine ⟨?_, ab_Vs_0 hst, hs ν _ σ (ab_up.rf h) trivial hp⟩
      have e2 := Nat.eq_of_beq_eq_true hb
      unfold ab_rt at e2
      split at e2 <;> first | rfl | (exact absurd e2 (by decide))
  · cases hh
theorem ac_tb_ok {e : ab_E} {x : Int} (h : ab_cx xs C ν) (he : ab_I C.1.length ν e x) : ∀ (offs : List Int) (lo : Int) (j : Nat) (o : Int), offs[j]? = some o → x = lo + (j : Int) → ∃ q ∈ ac_tb C pc L st H k n e lo offs, q.2 = (((pc : Int) + o).toNat, L, st, H, k, n) ∧ ab_cx xs q.1 ν ∧ q.1.1.length = C.1.length
  | [], _, _, _, h1, _ => by cases h1
  | o0 :: t, lo, 0, o, h1, h2 => by
    have e1 : o0 = o := by simpa using h1
    subst e1
    have b := ab_iv_ok h.1 he
    have hx : x = lo := by omega
    have hb : (ab_le (ab_iv C.1 e).1 lo && ab_le lo (ab_iv C.1 e).2) = true := by
      rw [Bool.and_eq_true, ab_le_ok, ab_le_ok]; omega
    have g := ab_asm_ok (c := .eq) (y := lo) (f := (0, lo)) h he (ab_con h) hx
    unfold ac_tb
    rw [hb]
    exact ⟨_, List.mem_cons_self, rfl, g.1, g.2⟩
  | o0 :: t, lo, j + 1, o, h1, h2 => by
    obtain ⟨q, q1, q2⟩ := ac_tb_ok h he t (lo + 1) j o (by simpa using h1) (by omega)
    unfold ac_tb
    cases (ab_le (ab_iv C.1 e).1 lo && ab_le lo (ab_iv C.1 e).2) with
    | true => exact ⟨q, List.mem_cons_of_mem _ q1, q2⟩
    | false => exact ⟨q, q1, q2⟩
theorem ac_sw_ok {d lo hi : Int} {offs : Array Int} {ln ra rb : Nat} {rz : Int} {rp : List Nat} (h : ab_cx xs C ν) (hL : ab_Ls C.1.length ν L Lc) (hst : ab_Vs C.1.length ν st sc) (hp : ac_hp kp σ0 C.1.length ν H σ) (hh : ac_sw d lo hi offs pc C L st H k n = some o) (hs : ac_sem kp σ0 xs C ν K Q CP o) :
    m_s_bare (.tableswitch d lo hi offs, ln, ra, rb, rz, rp) pc Lc sc (fun pc L st => K pc L st σ k n) := by
  unfold ac_sw at hh
  split at hh
  · rename_i e st'
    cases hz : ab_le (hi + 1) (lo + (offs.size : Int)) with
    | false => rw [hz] at hh; cases hh
    | true =>
    rw [hz] at hh
    rw [ab_le_ok] at hz
    cases hh
    obtain ⟨x, s', rfl, g1, g2⟩ := ab_Vs_i hst
    have b := ab_iv_ok h.1 g1
    show (match (if x.toInt < lo ∨ hi < x.toInt then some (((pc : Int) + d).toNat, Lc, s') else match offs[(x.toInt - lo).toNat]? with
      | some o => some (((pc : Int) + o).toNat, Lc, s')
      | none => none) with
      | some q => K q.1 q.2.1 q.2.2 σ k n
      | none => False)
    by_cases hout : x.toInt < lo ∨ hi < x.toInt
    · rw [if_pos hout]
      have hb : (ab_le lo (ab_iv C.1 e).1 && ab_le (ab_iv C.1 e).2 hi) = false := by
        cases hb : (ab_le lo (ab_iv C.1 e).1 && ab_le (ab_iv C.1 e).2 hi) with
        | false => rfl
        | true => rw [Bool.and_eq_true, ab_le_ok, ab_le_ok] at hb; omega
      exact hs (C, ((pc : Int) + d).toNat, L, st', H, k, n) (List.mem_append_right _ (by rw [hb]; exact List.mem_cons_self)) ν Lc s' σ (ab_up.rf h) hL g2 hp
    · rw [if_neg hout]
      have hj : (x.toInt - lo).toNat < offs.size := by omega
      have hoj := Array.getElem?_eq_getElem hj
      rw [hoj]
      obtain ⟨q, q1, q2, q3, q4⟩ := ac_tb_ok (pc := pc) (L := L) (st := st') (H := H) (k := k) (n := n) h g1 offs.toList lo (x.toInt - lo).toNat _ (by rw [Array.getElem?_toList]; exact hoj) (by omega)
      have hK := hs q (List.mem_append_left _ q1) ν Lc s' σ (ab_cx_up ⟨q3, q4⟩)
      rw [q4, q2] at hK
      exact hK hL g2 hp
  · cases hh
theorem ac_bare_ok (h : ab_cx xs C ν) (hL : ab_Ls C.1.length ν L Lc) (hst : ab_Vs C.1.length ν st sc) (hp : ac_hp kp σ0 C.1.length ν H σ) (hh : ac_bare r pc C L st H k n = some o) (hs : ac_sem kp σ0 xs C ν K Q CP o) : m_s_bare r pc Lc sc (fun pc L st => K pc L st σ k n) := by
  unfold ac_bare at hh
  unfold m_s_bare
  cases hb : ab_br r C st with
  | some q =>
    rw [hb] at hh
    dsimp only at hh
    obtain ⟨P, s', e1, g1, g2, g3, g4⟩ := ab_br_ok h hst hb
    rw [e1]
    dsimp only
    cases hq : q.1 with
    | none =>
      rw [hq] at hh
      cases hh
      refine ⟨fun hP => ?_, fun hP => ?_⟩
      · have u := ab_cx_up (g3 hP)
        exact hs _ List.mem_cons_self ν Lc s' σ u (hL.ex u.2.1 u.2.2) (g1.ex u.2.1 u.2.2) (hp.ex u.2.1 u.2.2)
      · have u := ab_cx_up (g4 hP)
        exact hs _ (List.mem_cons_of_mem _ List.mem_cons_self) ν Lc s' σ u (hL.ex u.2.1 u.2.2) (g1.ex u.2.1 u.2.2) (hp.ex u.2.1 u.2.2)
    | some b =>
      rw [hq] at hh
      have hP := g2 b hq
      cases b with
      | true => exact ⟨fun _ => ac_1_ok hh hs (ab_up.rf h) hL g1 hp, fun z => absurd (hP.mpr rfl) z⟩
      | false => exact ⟨(fun z => Bool.noConfusion (hP.mp z)), fun _ => ac_1_ok hh hs (ab_up.rf h) hL g1 hp⟩
  | none =>
    rw [hb] at hh
    dsimp only at hh
    cases hq : ac_pu r pc C L st with
    | none => rw [hq] at hh; cases hh
    | some q =>
      rw [hq] at hh
      obtain ⟨e1, ν', Lc', sc', e2, u, g1, g2⟩ := ac_pu_ok h hL hst hq
      rw [e1]
      dsimp only
      rw [e2]
      exact ac_1_ok hh hs u g1 g2 (hp.ex u.2.1 u.2.2)
end ACC
/-! one step of the analysis holds: all instructions -/
section ACD
variable {xs : ab_X} {C : ab_C} {ν : ab_N} {kp : ac_Kp} {σ0 : mS} {H : ac_H} {σ : mS} {L : List (Option ab_V)} {Lc : List (Option mV)} {st : List ab_V} {sc : List mV} {pc k n : Nat} {o : ac_Wt} {K : Nat → List (Option mV) → List mV → mS → Nat → Nat → Prop} {Q : mX → mS → Prop}
theorem ac_callP {CC : Nat → List mV → mS → (mX → mS → Prop) → Prop} {T : mS → Nat → Nat → Nat → Prop} {F : List mV → mS → Nat → Nat → Prop} {j : Nat} {y' : mMt} (hy : m_mt[j]? = some y') (hs : ac_sem kp σ0 xs C ν K Q (fun j avs sc' => ∀ y', m_mt[j]? = some y' → CC j avs σ (m_s_end T F sc' k n y')) o)
    (hj : ∀ c, o = .inr (.inr c) → c.1 = j) : ∀ c, o = .inr (.inr c) → ∀ avs sc', ab_Vs C.1.length ν c.2.1 avs → ab_Vs C.1.length ν c.2.2 sc' → CC c.1 avs σ (m_s_end T F sc' k n y') := by
  intro c hc avs sc' g1 g2
  have e := hj c hc
  subst hc
  exact hs avs sc' g1 g2 y' (by rw [e]; exact hy)
theorem ac_callV_j {R : Room} {y : mMt} {r : mRow} (hh : ac_callV R y r C st k n = some o) : ∀ c, o = .inr (.inr c) → c.1 = r.2.2.1 := by
  unfold ac_callV at hh
  split at hh
  · rename_i z st' hd
    cases hb : (Nat.beq z.1 (m_p r 5) && (ab_nn C z && (Nat.beq (st.take r.2.2.2.1).length r.2.2.2.1 && (Nat.ble (ab_sum st') 8 && ab_rm R (k + y.2.2.2.2.1.cells) (n + y.2.2.2.2.1.slots))))) with
    | false => rw [hb] at hh; cases hh
    | true =>
      rw [hb] at hh
      cases hh
      intro c hc
      cases hc
      rfl
  · cases hh
theorem ac_callS_j {R : Room} {y : mMt} {r : mRow} (hh : ac_callS R y r st k n = some o) : ∀ c, o = .inr (.inr c) → c.1 = r.2.2.1 := by
  unfold ac_callS at hh
  cases hb : (Nat.beq (st.take r.2.2.2.1).length r.2.2.2.1 && (Nat.ble (ab_sum (st.drop r.2.2.2.1)) 8 && ab_rm R (k + y.2.2.2.2.1.cells) (n + y.2.2.2.2.1.slots))) with
  | false => rw [hb] at hh; cases hh
  | true =>
    rw [hb] at hh
    cases hh
    intro c hc
    cases hc
    rfl
set_option maxHeartbeats 4000000 in
theorem ac_stp_ok {ms : Bool} {xs0 : ab_X} {y : mMt} {rows : List (Nat × mRow)} {CC : Nat → List mV → mS → (mX → mS → Prop) → Prop} {T : Nat → List (Option mV) → mS → Nat → Nat → Nat → Prop} (hx0 : ms = true → xs0 = xs) (hxl : ab_xl ms xs C ν) (h : ab_cx xs C ν) (hL : ab_Ls C.1.length ν L Lc) (hst : ab_Vs C.1.length ν st sc) (hp : ac_hp kp σ0 C.1.length ν H σ) (hh : ac_stp kp ms y rows pc C L st H k n = some o)
    (hs : ac_sem kp σ0 xs C ν K Q (fun j avs sc' => ∀ y', m_mt[j]? = some y' → CC j avs σ (m_s_end (T pc Lc) (fun st σ k n => K (pc + 3) Lc st σ k n) sc' k n y')) o) :
    m_step m_mt CC y.2.2.2.1 y.2.2.2.2.1 y.2.2.1 rows y.2.2.2.2.1.cells y.2.2.2.2.1.slots Q xs0 T K pc Lc sc σ k n := by
  unfold ac_stp at hh
  unfold m_step
  cases hr : m_at rows pc with
  | none => rw [hr] at hh; cases hh
  | some r =>
  rw [hr] at hh
  obtain ⟨ig, ln, ra, rb, rz, rp⟩ := r
  dsimp only at hh ⊢
  cases ig
  case getfield i => exact ac_get_ok h hL hst hp hh hs
  case putfield i => exact ac_putf_ok h hL hst hp hh hs
  case arraylength => exact ac_len_ok hx0 hxl h hL hst hp hh hs
  case iaload => exact ac_ials_ok hx0 hxl h hL hst hp hh hs
  case laload => exact ac_ald_ok h hL hst hp hh hs
  case baload => exact ac_ald_ok h hL hst hp hh hs
  case aaload => exact ac_aldq_ok h hL hst hp hh hs
  case iastore => exact ac_iast_ok h hL hst hp hh hs
  case lastore => exact ac_last_ok h hL hst hp hh hs
  case bastore => cases (show none = some o from hh)
  case aastore => exact ac_astq_ok h hL hst hp hh hs
  case new i => exact ac_newo_ok h hL hst hp hh hs
  case newarray i => cases hh
  case anewarray i => cases hh
  case invokevirtual i =>
    dsimp only at hh ⊢
    cases hb : Nat.beq L.length y.2.2.1 with
    | false => rw [hb] at hh; cases hh
    | true =>
      rw [hb] at hh
      dsimp only [cond_true] at hh
      refine ⟨hL.1.trans (Nat.eq_of_beq_eq_true hb), ?_⟩
      cases hy : m_mt[ra]? with
      | none => rw [hy] at hh; cases hh
      | some y' =>
        rw [hy] at hh
        exact ac_callV_ok h hst hh (ac_callP hy hs (ac_callV_j hh))
  case invokespecial i =>
    dsimp only at hh ⊢
    cases hb : Nat.beq L.length y.2.2.1 with
    | false => rw [hb] at hh; cases hh
    | true =>
      rw [hb] at hh
      dsimp only [cond_true] at hh
      refine ⟨hL.1.trans (Nat.eq_of_beq_eq_true hb), ?_⟩
      cases hc : Nat.beq ra 2000 with
      | true =>
        rw [hc] at hh
        rw [if_pos (Nat.eq_of_beq_eq_true hc)]
        exact ac_obj_ok h hL hst hp hh hs
      | false =>
        rw [hc] at hh
        dsimp only [cond_false] at hh
        rw [if_neg (fun z => by rw [z] at hc; cases hc)]
        cases hy : m_mt[ra]? with
        | none => rw [hy] at hh; cases hh
        | some y' =>
          rw [hy] at hh
          exact ac_callV_ok h hst hh (ac_callP hy hs (ac_callV_j hh))
  case invokestatic i =>
    dsimp only at hh ⊢
    cases hb : (Nat.beq L.length y.2.2.1 && ab_rm y.2.2.2.2.1 k n) with
    | false => rw [hb] at hh; cases hh
    | true =>
      rw [hb] at hh
      rw [Bool.and_eq_true] at hb
      dsimp only [cond_true] at hh
      refine ⟨hL.1.trans (Nat.eq_of_beq_eq_true hb.1), ab_rm_ok hb.2, ?_⟩
      cases hc : Nat.ble 1000 ra with
      | true =>
        rw [hc] at hh
        rw [if_pos (Nat.le_of_ble_eq_true hc)]
        exact ac_math_ok h hL hst hp hh hs
      | false =>
        rw [hc] at hh
        dsimp only [cond_false] at hh
        rw [if_neg (fun z => by rw [Nat.ble_eq.mpr z] at hc; cases hc)]
        cases hy : m_mt[ra]? with
        | none => rw [hy] at hh; cases hh
        | some y' =>
          rw [hy] at hh
          exact ac_callS_ok hst hh (ac_callP hy hs (ac_callS_j hh))
  case ireturn =>
    dsimp only at hh ⊢
    cases hb : ab_rm y.2.2.2.2.1 k n with
    | false => rw [hb] at hh; cases hh
    | true =>
      rw [hb] at hh
      have g := ab_rm_ok hb
      exact ⟨g.1, g.2, ac_iret_ok h hst hp hh hs⟩
  case lreturn =>
    dsimp only at hh ⊢
    cases hb : ab_rm y.2.2.2.2.1 k n with
    | false => rw [hb] at hh; cases hh
    | true =>
      rw [hb] at hh
      have g := ab_rm_ok hb
      exact ⟨g.1, g.2, ac_lret_ok h hst hp hh hs⟩
  case areturn =>
    dsimp only at hh ⊢
    cases hb : ab_rm y.2.2.2.2.1 k n with
    | false => rw [hb] at hh; cases hh
    | true =>
      rw [hb] at hh
      have g := ab_rm_ok hb
      exact ⟨g.1, g.2, ac_aret_ok h hst hp hh hs⟩
  case return_ =>
    dsimp only at hh ⊢
    cases hb : ab_rm y.2.2.2.2.1 k n with
    | false => rw [hb] at hh; cases hh
    | true =>
      rw [hb] at hh
      have g := ab_rm_ok hb
      exact ⟨g.1, g.2, ac_vret_ok h hst hp hh hs⟩
  case multianewarray i d => cases hh
  case tableswitch d lo hi offs => exact ac_sw_ok h hL hst hp hh hs
  all_goals exact ac_bare_ok h hL hst hp hh hs
end ACD
