/-! one step of the analysis holds: all instructions -/
section ABD
variable {xs : ab_X} {C : ab_C} {ν : ab_N} {H : ab_H} {σ : mS} {L : List (Option ab_V)} {Lc : List (Option mV)} {st : List ab_V} {sc : List mV} {pc k n : Nat} {o : ab_W} {K : Nat → List (Option mV) → List mV → mS → Nat → Nat → Prop} {Q : mX → mS → Prop}
theorem ab_callP {CC : Nat → List mV → mS → (mX → mS → Prop) → Prop} {T : mS → Nat → Nat → Nat → Prop} {F : List mV → mS → Nat → Nat → Prop} {j : Nat} {y' : mMt} (hy : m_mt[j]? = some y') (hs : ab_sem xs C ν K Q (fun j avs sc' => ∀ y', m_mt[j]? = some y' → CC j avs σ (m_s_end T F sc' k n y')) o)
    (hj : ∀ c, o = .inr (.inr c) → c.1 = j) : ∀ c, o = .inr (.inr c) → ∀ avs sc', ab_Vs C.1.length ν c.2.1 avs → ab_Vs C.1.length ν c.2.2 sc' → CC c.1 avs σ (m_s_end T F sc' k n y') := by
  intro c hc avs sc' g1 g2
  have e := hj c hc
  subst hc
  exact hs avs sc' g1 g2 y' (by rw [e]; exact hy)
theorem ab_callV_j {R : Room} {y : mMt} {r : mRow} (hh : ab_callV R y r C st k n = some o) : ∀ c, o = .inr (.inr c) → c.1 = r.2.2.1 := by
  unfold ab_callV at hh
  split at hh
  · rename_i z st' hd
    cases hb : (Nat.beq z.1 (m_p r 5) && (ab_nn C z && (Nat.beq (st.take r.2.2.2.1).length r.2.2.2.1 && (Nat.ble (ab_sum st') 8 && ab_rm R (k + y.2.2.2.2.1.cells) (n + y.2.2.2.2.1.slots))))) with
    | false => rw [hb] at hh; cases hh
    | true =>
      rw [hb] at hh
      cases hh
      intro c hc
      cases hc
      rfl
  · cases hh
theorem ab_callS_j {R : Room} {y : mMt} {r : mRow} (hh : ab_callS R y r st k n = some o) : ∀ c, o = .inr (.inr c) → c.1 = r.2.2.1 := by
  unfold ab_callS at hh
  cases hb : (Nat.beq (st.take r.2.2.2.1).length r.2.2.2.1 && (Nat.ble (ab_sum (st.drop r.2.2.2.1)) 8 && ab_rm R (k + y.2.2.2.2.1.cells) (n + y.2.2.2.2.1.slots))) with
  | false => rw [hb] at hh; cases hh
  | true =>
    rw [hb] at hh
    cases hh
    intro c hc
    cases hc
    rfl
set_option maxHeartbeats 4000000 in
theorem ab_stp_ok {ms : Bool} {xs0 : ab_X} {y : mMt} {rows : List (Nat × mRow)} {CC : Nat → List mV → mS → (mX → mS → Prop) → Prop} {T : Nat → List (Option mV) → mS → Nat → Nat → Nat → Prop} (hx0 : ms = true → xs0 = xs) (hxl : ab_xl ms xs C ν) (h : ab_cx xs C ν) (hL : ab_Ls C.1.length ν L Lc) (hst : ab_Vs C.1.length ν st sc) (hp : ab_hp C.1.length ν H σ) (hh : ab_stp ms y rows pc C L st H k n = some o)
    (hs : ab_sem xs C ν K Q (fun j avs sc' => ∀ y', m_mt[j]? = some y' → CC j avs σ (m_s_end (T pc Lc) (fun st σ k n => K (pc + 3) Lc st σ k n) sc' k n y')) o) :
    m_step m_mt CC y.2.2.2.1 y.2.2.2.2.1 y.2.2.1 rows y.2.2.2.2.1.cells y.2.2.2.2.1.slots Q xs0 T K pc Lc sc σ k n := by
  unfold ab_stp at hh
  unfold m_step
  cases hr : m_at rows pc with
  | none => rw [hr] at hh; cases hh
  | some r =>
  rw [hr] at hh
  obtain ⟨ig, ln, ra, rb, rz, rp⟩ := r
  dsimp only at hh ⊢
  cases ig
  case getfield i => exact ab_get_ok h hL hst hp hh hs
  case putfield i => exact ab_putf_ok h hL hst hp hh hs
  case arraylength => exact ab_len_ok hx0 hxl h hL hst hp hh hs
  case iaload => exact ab_ials_ok hx0 hxl h hL hst hp hh hs
  case laload => exact ab_ald_ok h hL hst hp hh hs
  case baload => exact ab_ald_ok h hL hst hp hh hs
  case aaload => exact ab_aldq_ok h hL hst hp hh hs
  case iastore => exact ab_iast_ok h hL hst hp hh hs
  case lastore => exact ab_last_ok h hL hst hp hh hs
  case bastore => cases (show none = some o from hh)
  case aastore => exact ab_astq_ok h hL hst hp hh hs
  case new i => exact ab_newo_ok h hL hst hp hh hs
  case newarray i => exact ab_newa_ok h hL hst hp hh hs
  case anewarray i => exact ab_newa_ok h hL hst hp hh hs
  case invokevirtual i =>
    dsimp only at hh ⊢
    cases hb : Nat.beq L.length y.2.2.1 with
    | false => rw [hb] at hh; cases hh
    | true =>
      rw [hb] at hh
      dsimp only [cond_true] at hh
      refine ⟨hL.1.trans (Nat.eq_of_beq_eq_true hb), ?_⟩
      cases hy : m_mt[ra]? with
      | none => rw [hy] at hh; cases hh
      | some y' =>
        rw [hy] at hh
        exact ab_callV_ok h hst hh (ab_callP hy hs (ab_callV_j hh))
  case invokespecial i =>
    dsimp only at hh ⊢
    cases hb : Nat.beq L.length y.2.2.1 with
    | false => rw [hb] at hh; cases hh
    | true =>
      rw [hb] at hh
      dsimp only [cond_true] at hh
      refine ⟨hL.1.trans (Nat.eq_of_beq_eq_true hb), ?_⟩
      cases hc : Nat.beq ra 2000 with
      | true =>
        rw [hc] at hh
        rw [if_pos (Nat.eq_of_beq_eq_true hc)]
        exact ab_obj_ok h hL hst hp hh hs
      | false =>
        rw [hc] at hh
        dsimp only [cond_false] at hh
        rw [if_neg (fun z => by rw [z] at hc; cases hc)]
        cases hy : m_mt[ra]? with
        | none => rw [hy] at hh; cases hh
        | some y' =>
          rw [hy] at hh
          exact ab_callV_ok h hst hh (ab_callP hy hs (ab_callV_j hh))
  case invokestatic i =>
    dsimp only at hh ⊢
    cases hb : (Nat.beq L.length y.2.2.1 && ab_rm y.2.2.2.2.1 k n) with
    | false => rw [hb] at hh; cases hh
    | true =>
      rw [hb] at hh
      rw [Bool.and_eq_true] at hb
      dsimp only [cond_true] at hh
      refine ⟨hL.1.trans (Nat.eq_of_beq_eq_true hb.1), ab_rm_ok hb.2, ?_⟩
      cases hc : Nat.ble 1000 ra with
      | true =>
        rw [hc] at hh
        rw [if_pos (Nat.le_of_ble_eq_true hc)]
        exact ab_math_ok h hL hst hp hh hs
      | false =>
        rw [hc] at hh
        dsimp only [cond_false] at hh
        rw [if_neg (fun z => by rw [Nat.ble_eq.mpr z] at hc; cases hc)]
        cases hy : m_mt[ra]? with
        | none => rw [hy] at hh; cases hh
        | some y' =>
          rw [hy] at hh
          exact ab_callS_ok hst hh (ab_callP hy hs (ab_callS_j hh))
  case ireturn =>
    dsimp only at hh ⊢
    cases hb : ab_rm y.2.2.2.2.1 k n with
    | false => rw [hb] at hh; cases hh
    | true =>
      rw [hb] at hh
      have g := ab_rm_ok hb
      exact ⟨g.1, g.2, ab_iret_ok h hst hp hh hs⟩
  case lreturn =>
    dsimp only at hh ⊢
    cases hb : ab_rm y.2.2.2.2.1 k n with
    | false => rw [hb] at hh; cases hh
    | true =>
      rw [hb] at hh
      have g := ab_rm_ok hb
      exact ⟨g.1, g.2, ab_lret_ok h hst hp hh hs⟩
  case areturn =>
    dsimp only at hh ⊢
    cases hb : ab_rm y.2.2.2.2.1 k n with
    | false => rw [hb] at hh; cases hh
    | true =>
      rw [hb] at hh
      have g := ab_rm_ok hb
      exact ⟨g.1, g.2, ab_aret_ok h hst hp hh hs⟩
  case return_ =>
    dsimp only at hh ⊢
    cases hb : ab_rm y.2.2.2.2.1 k n with
    | false => rw [hb] at hh; cases hh
    | true =>
      rw [hb] at hh
      have g := ab_rm_ok hb
      exact ⟨g.1, g.2, ab_vret_ok h hst hp hh hs⟩
  case multianewarray i d => exact ab_mna_ok h hL hst hp hh hs
  case tableswitch d lo hi offs => exact ab_sw_ok h hL hst hp hh hs
  all_goals exact ab_bare_ok h hL hst hp hh hs
end ABD
