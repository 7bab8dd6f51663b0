/-! the first analysis with a frame: what was there stays as it is, but for the second hall's place -/
def ad_cA (c : Nat) : Int := match ([1, 1000000000, 1, 1, 1, 4, 6, 120, 3, 2, 200, 1, 1, 42, 23, 2, 1, 1, 1, 1, 1, 1] : List Int)[c]? with
  | some z => z
  | none => 1000000000
def ad_ok (C : ab_C) (c : Nat) (e k : ab_E) : Bool := Nat.blt c 22 && (!(Nat.beq c 1) && (ab_le (ad_cA c) (ab_iv C.1 e).1 || (Nat.beq c 11 && ab_eE k (0, 2))))
def ad_wr (C : ab_C) (H : ab_H) (c : Nat) (e k : ab_E) (v : ab_V) : Option ab_H := bif ad_ok C c e k then ab_wr C H c e k v else none
def ad_fr (σ0 σ : mS) : Prop := (∀ c, c < 22 → c ≠ 1 → (σ0.1 c : Int) = ad_cA c) ∧ (∀ c, σ0.1 c ≤ σ.1 c) ∧ σ.1 1 = σ0.1 1 ∧ (∀ c i, (c = 1 ∨ i < σ0.1 c) → σ.2.1 c i = σ0.2.1 c i) ∧ ∀ c i k, (c = 1 ∨ i < σ0.1 c) → ¬ (c = 11 ∧ k = 2) → m_get σ c i k = m_get σ0 c i k
def ad_hp (σ0 : mS) (n : Nat) (ν : ab_N) (H : ab_H) (σ : mS) : Prop := ab_hp n ν H σ ∧ ad_fr σ0 σ
section ADA
variable {xs : ab_X} {C : ab_C} {ν ν' : ab_N} {H H' : ab_H} {σ0 σ : mS} {c i k : Nat} {e f : ab_E} {v : ab_V} {x : mV} {n n' : Nat}
theorem ad_hp.ex (h : ad_hp σ0 n ν H σ) (g : ab_ex n ν ν') (hn : n ≤ n') : ad_hp σ0 n' ν' H σ := ⟨h.1.ex g hn, h.2⟩
theorem ad_wr_ok (h : ab_cx xs C ν) (hp : ad_hp σ0 C.1.length ν H σ) (he : ab_I C.1.length ν e (i : Int)) (hk : ab_I C.1.length ν f (k : Int)) (hv : ab_Vr C.1.length ν v x) (ht : m_tp (m_ty c k) x) (hw : ad_wr C H c e f v = some H') : ad_hp σ0 C.1.length ν H' (m_set σ c i k x) := by
  unfold ad_wr at hw
  cases hb : ad_ok C c e f with
  | false => rw [hb] at hw; cases hw
  | true =>
  rw [hb] at hw
  refine ⟨ab_wr_ok h hp.1 he hk hv ht hw, ?_⟩
  obtain ⟨f1, f2, f3, f4, f5⟩ := hp.2
  refine ⟨f1, by rw [m_set_1]; exact f2, by rw [m_set_1]; exact f3, by rw [m_set_2]; exact f4, fun c' i' k' h1 h2 => ?_⟩
  rw [m_get_ne σ x ?_]
  · exact f5 c' i' k' h1 h2
  · rintro ⟨rfl, rfl, rfl⟩
    unfold ad_ok at hb
    simp only [Bool.and_eq_true, Bool.or_eq_true, Nat.blt_eq, Bool.not_eq_true', ab_le_ok] at hb
    obtain ⟨b1, b2, b3⟩ := hb
    have hne : c' ≠ 1 := fun z => by rw [z] at b2; cases b2
    rcases b3 with b3 | ⟨b3, b4⟩
    · have g1 := f1 c' b1 hne
      have g2 := ab_iv_ok h.1 he
      rcases h1 with h1 | h1
      · exact hne h1
      · omega
    · have e1 := Nat.eq_of_beq_eq_true b3
      have e2 := ab_eE_ok b4
      have g := hk.2
      rw [e2, h.1.1] at g
      have g : (k' : Int) = 0 + 2 := g
      exact h2 ⟨e1, by omega⟩
theorem ad_nw_ok {len : Nat} {arr : Bool} (hc1 : c ≠ 1) (h : ab_cx xs C ν) (hp : ad_hp σ0 C.1.length ν H σ) (he : ab_I C.1.length ν e (σ.1 c : Int)) (hz : arr = true → ∀ k, m_ty c k = m_ty c 0) : ad_hp σ0 C.1.length ν (ab_nw C H c len arr e) (m_nu σ c len) := by
  refine ⟨ab_nw_ok h hp.1 he hz, ?_⟩
  obtain ⟨f1, f2, f3, f4, f5⟩ := hp.2
  have fc := f2 c
  refine ⟨f1, fun c' => ?_, ?_, fun c' i' h1 => ?_, fun c' i' k' h1 h2 => ?_⟩
  · by_cases e1 : c' = c
    · subst e1
      rw [m_nu_cnt]; omega
    · rw [m_nu_cntO σ e1]; exact f2 c'
  · rw [m_nu_cntO σ (fun z => hc1 z.symm)]; exact f3
  · rw [m_nu_len σ ?_]
    · exact f4 c' i' h1
    · rintro ⟨rfl, rfl⟩
      rcases h1 with h1 | h1
      · exact hc1 h1
      · omega
  · rw [m_nu_old σ ?_]
    · exact f5 c' i' k' h1 h2
    · rintro ⟨rfl, rfl⟩
      rcases h1 with h1 | h1
      · exact hc1 h1
      · omega
theorem ad_mn_ok (h : ad_fr σ0 σ) : ad_fr σ0 (m_mn σ) := by
  obtain ⟨f1, f2, f3, f4, f5⟩ := h
  have g13 := f2 13
  have g21 := f2 21
  have n1 : ∀ c' i', (c' = 1 ∨ i' < σ0.1 c') → ¬ (c' = 13 ∧ σ.1 13 ≤ i') ∧ ¬ (c' = 21 ∧ i' = σ.1 21) := by
    intro c' i' h1
    refine ⟨?_, ?_⟩
    · rintro ⟨rfl, hi⟩
      rcases h1 with h1 | h1
      · cases h1
      · omega
    · rintro ⟨rfl, rfl⟩
      rcases h1 with h1 | h1
      · cases h1
      · omega
  refine ⟨f1, fun c' => ?_, ?_, fun c' i' h1 => ?_, fun c' i' k' h1 h2 => ?_⟩
  · show σ0.1 c' ≤ (if c' = 13 then σ.1 13 + 4 else if c' = 21 then σ.1 21 + 1 else σ.1 c')
    by_cases e1 : c' = 13
    · rw [if_pos e1, e1]; omega
    · rw [if_neg e1]
      by_cases e2 : c' = 21
      · rw [if_pos e2, e2]; omega
      · rw [if_neg e2]; exact f2 c'
  · show (if (1 : Nat) = 13 then σ.1 13 + 4 else if (1 : Nat) = 21 then σ.1 21 + 1 else σ.1 1) = σ0.1 1
    rw [if_neg (by decide), if_neg (by decide)]; exact f3
  · rw [m_mn_len σ (n1 c' i' h1).1 (n1 c' i' h1).2]; exact f4 c' i' h1
  · rw [m_mn_old σ (n1 c' i' h1).1 (n1 c' i' h1).2]; exact f5 c' i' k' h1 h2
end ADA
def ad_putf (r : mRow) (pc : Nat) (C : ab_C) (L : List (Option ab_V)) (st : List ab_V) (H : ab_H) (k n : Nat) : Option ab_W := match st with
  | v :: .inr (.inr (.inl z)) :: st => bif Nat.beq z.1 r.2.2.1 && (ab_nn C z && ab_tp C r.2.2.1 r.2.2.2.1 v) then (match ad_wr C H r.2.2.1 z.2.1 (0, (r.2.2.2.1 : Int)) v with
      | some H' => ab_1 C (pc + 3) L st H' k n
      | none => none) else none
  | _ => none
def ad_ast (c : Nat) (pc : Nat) (C : ab_C) (L : List (Option ab_V)) (st : List ab_V) (H : ab_H) (k n : Nat) : Option ab_W := match st with
  | v :: .inl e :: .inr (.inr (.inl z)) :: st => bif ab_ix C H c z e && ab_tp C c 0 v then (match ad_wr C H c z.2.1 e v with
      | some H' => ab_1 C (pc + 1) L st H' k n
      | none => none) else none
  | _ => none
def ad_astq (pc : Nat) (C : ab_C) (L : List (Option ab_V)) (st : List ab_V) (H : ab_H) (k n : Nat) : Option ab_W := match st with
  | .inr (.inr (.inl d)) :: .inl _ :: .inr (.inr (.inl z)) :: _ => bif Nat.ble 16 z.1 && (Nat.ble z.1 20 && (ab_nn C d && Nat.beq d.1 (m_el z.1))) then ad_ast z.1 pc C L st H k n else none
  | _ => none
def ad_stp (ms : Bool) (y : mMt) (rows : List (Nat × mRow)) (pc : Nat) (C : ab_C) (L : List (Option ab_V)) (st : List ab_V) (H : ab_H) (k n : Nat) : Option ab_W := match m_at rows pc with
  | none => none
  | some r => match r.1 with
    | .getfield _ => ab_get r pc C L st H k n
    | .putfield _ => ad_putf r pc C L st H k n
    | .arraylength => ab_len ms pc C L st H k n
    | .iaload => ab_ials ms pc C L st H k n
    | .laload => ab_ald 14 pc C L st H k n
    | .baload => ab_ald 15 pc C L st H k n
    | .aaload => ab_aldq pc C L st H k n
    | .iastore => ad_ast 13 pc C L st H k n
    | .lastore => ad_ast 14 pc C L st H k n
    | .bastore => ad_ast 15 pc C L st H k n
    | .aastore => ad_astq pc C L st H k n
    | .new _ => bif Nat.beq r.2.2.1 1 then none else ab_newo y.2.2.2.2.1 y.2.2.1 y.2.2.2.2.1.cells y.2.2.2.2.1.slots r pc C L st H k n
    | .newarray _ => ab_newa y.2.2.2.2.1 r 2 pc C L st H k n
    | .anewarray _ => ab_newa y.2.2.2.2.1 r 3 pc C L st H k n
    | .multianewarray _ _ => ab_mna y.2.2.2.2.1 pc C L st H k n
    | .invokevirtual _ => bif Nat.beq L.length y.2.2.1 then (match m_mt[r.2.2.1]? with
      | some y' => ab_callV y.2.2.2.2.1 y' r C st k n
      | none => none) else none
    | .invokespecial _ => bif Nat.beq L.length y.2.2.1 then (bif Nat.beq r.2.2.1 2000 then ab_obj y.2.2.2.2.1 pc C L st H k n else match m_mt[r.2.2.1]? with
      | some y' => ab_callV y.2.2.2.2.1 y' r C st k n
      | none => none) else none
    | .invokestatic _ => bif Nat.beq L.length y.2.2.1 && ab_rm y.2.2.2.2.1 k n then (bif Nat.ble 1000 r.2.2.1 then ab_math y.2.2.2.2.1 r.2.2.1 pc C L st H k n else match m_mt[r.2.2.1]? with
      | some y' => ab_callS y.2.2.2.2.1 y' r st k n
      | none => none) else none
    | .ireturn => bif ab_rm y.2.2.2.2.1 k n then ab_iret y.2.2.2.1 C st H else none
    | .lreturn => bif ab_rm y.2.2.2.2.1 k n then ab_lret y.2.2.2.1 C st H else none
    | .areturn => bif ab_rm y.2.2.2.2.1 k n then ab_aret y.2.2.2.1 C st H else none
    | .return_ => bif ab_rm y.2.2.2.2.1 k n then ab_vret y.2.2.2.1 C st H else none
    | .tableswitch d lo hi offs => ab_sw d lo hi offs pc C L st H k n
    | _ => ab_bare r pc C L st H k n
section ADB
variable {xs : ab_X} {C : ab_C} {ν : ab_N} {σ0 : mS} {H : ab_H} {σ : mS} {L : List (Option ab_V)} {Lc : List (Option mV)} {st : List ab_V} {sc : List mV} {pc k n : Nat} {r : mRow} {o : ab_W} {K : Nat → List (Option mV) → List mV → mS → Nat → Nat → Prop} {Q : mX → mS → Prop} {CP : Nat → List mV → List mV → Prop}
def ad_kq (σ0 : mS) (xs : ab_X) (C : ab_C) (ν : ab_N) (K : Nat → List (Option mV) → List mV → mS → Nat → Nat → Prop) (q : ab_S) : Prop := ∀ ν' Lc' sc' σ', ab_up xs C ν q.1 ν' → ab_Ls q.1.1.length ν' q.2.2.1 Lc' → ab_Vs q.1.1.length ν' q.2.2.2.1 sc' → ad_hp σ0 q.1.1.length ν' q.2.2.2.2.1 σ' → K q.2.1 Lc' sc' σ' q.2.2.2.2.2.1 q.2.2.2.2.2.2
/-- what a step owes: CP says how calls go on -/
def ad_sem (σ0 : mS) (xs : ab_X) (C : ab_C) (ν : ab_N) (K : Nat → List (Option mV) → List mV → mS → Nat → Nat → Prop) (Q : mX → mS → Prop) (CP : Nat → List mV → List mV → Prop) (o : ab_W) : Prop := match o with
  | .inl nx => ∀ q ∈ nx, ad_kq σ0 xs C ν K q
  | .inr (.inl e) => ∀ ν' x σ', ab_up xs C ν e.1 ν' → ab_xo e.1.1.length ν' e.2.1 x → ad_hp σ0 e.1.1.length ν' e.2.2 σ' → Q x σ'
  | .inr (.inr c) => ∀ avs sc', ab_Vs C.1.length ν c.2.1 avs → ab_Vs C.1.length ν c.2.2 sc' → CP c.1 avs sc'
theorem ad_1_ok {C' : ab_C} {pc' k' n' : Nat} {L' : List (Option ab_V)} {st' : List ab_V} {H' : ab_H} {ν' : ab_N} {Lc' : List (Option mV)} {sc' : List mV} {σ' : mS} (hh : ab_1 C' pc' L' st' H' k' n' = some o) (hs : ad_sem σ0 xs C ν K Q CP o) (u : ab_up xs C ν C' ν') (hL : ab_Ls C'.1.length ν' L' Lc') (hst : ab_Vs C'.1.length ν' st' sc') (hp : ad_hp σ0 C'.1.length ν' H' σ') : K pc' Lc' sc' σ' k' n' := by
  cases hh
  exact hs _ List.mem_cons_self ν' Lc' sc' σ' u hL hst hp
theorem ad_get_ok (h : ab_cx xs C ν) (hL : ab_Ls C.1.length ν L Lc) (hst : ab_Vs C.1.length ν st sc) (hp : ad_hp σ0 C.1.length ν H σ) (hh : ab_get r pc C L st H k n = some o) (hs : ad_sem σ0 xs C ν K Q CP o) : m_s_get r σ sc (fun st => K (pc + 3) Lc st σ k n) := by
  unfold ab_get at hh
  split at hh
  · rename_i z st'
    cases hb : (Nat.beq z.1 r.2.2.1 && ab_nn C z) with
    | false => rw [hb] at hh; cases hh
    | true =>
    rw [hb] at hh
    rw [Bool.and_eq_true] at hb
    dsimp only [cond_true] at hh
    obtain ⟨y, s', rfl, g1, g2⟩ := ab_Vs_a hst
    obtain ⟨p, rfl, h1, h2⟩ := ab_R_some h g1 hb.2
    cases hr : ab_rd C H r.2.2.1 z.2.1 (0, (r.2.2.2.1 : Int)) with
    | none => rw [hr] at hh; cases hh
    | some q =>
      rw [hr] at hh
      obtain ⟨ν', u, g⟩ := ab_rd_ok h hp.1 h2 (ab_con h) hr
      refine ⟨h1.trans (Nat.eq_of_beq_eq_true hb.1), ?_⟩
      exact ad_1_ok hh hs u (hL.ex u.2.1 u.2.2) ⟨g, g2.ex u.2.1 u.2.2⟩ (hp.ex u.2.1 u.2.2)
  · cases hh
theorem ad_putf_ok (h : ab_cx xs C ν) (hL : ab_Ls C.1.length ν L Lc) (hst : ab_Vs C.1.length ν st sc) (hp : ad_hp σ0 C.1.length ν H σ) (hh : ad_putf r pc C L st H k n = some o) (hs : ad_sem σ0 xs C ν K Q CP o) : m_s_put r σ sc (fun st σ => K (pc + 3) Lc st σ k n) := by
  unfold ad_putf at hh
  split at hh
  · rename_i v z st'
    cases hb : (Nat.beq z.1 r.2.2.1 && (ab_nn C z && ab_tp C r.2.2.1 r.2.2.2.1 v)) with
    | false => rw [hb] at hh; cases hh
    | true =>
    rw [hb] at hh
    rw [Bool.and_eq_true, Bool.and_eq_true] at hb
    dsimp only [cond_true] at hh
    obtain ⟨x, s1, rfl, g1, g2⟩ := ab_Vs_c hst
    obtain ⟨y, s', rfl, g3, g4⟩ := ab_Vs_a g2
    obtain ⟨p, rfl, h1, h2⟩ := ab_R_some h g3 hb.2.1
    cases hr : ad_wr C H r.2.2.1 z.2.1 (0, (r.2.2.2.1 : Int)) v with
    | none => rw [hr] at hh; cases hh
    | some H' =>
      rw [hr] at hh
      have ht := ab_tp_ok h g1 hb.2.2
      exact ⟨h1.trans (Nat.eq_of_beq_eq_true hb.1), ht, ad_1_ok hh hs (ab_up.rf h) hL g4 (ad_wr_ok h hp h2 (ab_con h) g1 ht hr)⟩
  · cases hh
theorem ad_len_ok {ms : Bool} {xs0 : ab_X} (hx0 : ms = true → xs0 = xs) (hxl : ab_xl ms xs C ν) (h : ab_cx xs C ν) (hL : ab_Ls C.1.length ν L Lc) (hst : ab_Vs C.1.length ν st sc) (hp : ad_hp σ0 C.1.length ν H σ) (hh : ab_len ms pc C L st H k n = some o) (hs : ad_sem σ0 xs C ν K Q CP o) :
    bif m_isx sc 0 then m_s_xlen xs0 sc (fun st => K (pc + 1) Lc st σ k n) else m_s_len σ sc (fun st => K (pc + 1) Lc st σ k n) := by
  unfold ab_len at hh
  split at hh
  · rename_i z st'
    cases hb : ab_nn C z with
    | false => rw [hb] at hh; cases hh
    | true =>
    rw [hb] at hh
    dsimp only [cond_true] at hh
    obtain ⟨y, s', rfl, g1, g2⟩ := ab_Vs_a hst
    obtain ⟨p, rfl, h1, h2⟩ := ab_R_some h g1 hb
    rw [ab_isx (i := 0) (s' := s') (st' := .inr (.inr (some p)) :: s') rfl h1]
    cases hc : Nat.beq z.1 98 with
    | true =>
      rw [hc] at hh
      dsimp only [cond_true] at hh ⊢
      cases hm : ms with
      | false => rw [hm] at hh; cases hh
      | true =>
        rw [hm] at hh
        obtain ⟨w, e1, e2, e3⟩ := hxl hm
        rw [hx0 hm, e1]
        have e4 : ab_I C.1.length ν (1, 0) (Int32.ofNat w.1).toInt := by rw [ab_ofN e2]; exact e3
        exact ⟨e2, ad_1_ok hh hs (ab_up.rf h) hL ⟨e4, g2⟩ hp⟩
    | false =>
      rw [hc] at hh
      dsimp only [cond_false] at hh ⊢
      cases hd : (Nat.ble 13 z.1 && Nat.ble z.1 21) with
      | false => rw [hd] at hh; cases hh
      | true =>
      rw [hd] at hh
      rw [Bool.and_eq_true, Nat.ble_eq, Nat.ble_eq] at hd
      dsimp only [cond_true] at hh
      cases hl : ab_alen H z.1 (ab_iv C.1 z.2.1) with
      | none => rw [hl] at hh; cases hh
      | some len =>
        rw [hl] at hh
        dsimp only at hh
        cases he : Nat.blt len 2147483648 with
        | false => rw [he] at hh; cases hh
        | true =>
          rw [he] at hh
          rw [Nat.blt_eq] at he
          have b := ab_iv_ok h.1 h2
          have e1 := ab_alen_ok hp.1 hl b.1 b.2
          rw [← h1] at e1 hd
          refine ⟨hd, ?_⟩
          show K (pc + 1) Lc (.inl (Int32.ofNat (σ.2.1 p.1 p.2)) :: s') σ k n
          rw [e1]
          have e4 : ab_I C.1.length ν (0, (len : Int)) (Int32.ofNat len).toInt := by rw [ab_ofN he]; exact ab_con h
          exact ad_1_ok hh hs (ab_up.rf h) hL ⟨e4, g2⟩ hp
  · cases hh
theorem ad_ald_ok {c : Nat} (h : ab_cx xs C ν) (hL : ab_Ls C.1.length ν L Lc) (hst : ab_Vs C.1.length ν st sc) (hp : ad_hp σ0 C.1.length ν H σ) (hh : ab_ald c pc C L st H k n = some o) (hs : ad_sem σ0 xs C ν K Q CP o) : m_s_ald c σ sc (fun st => K (pc + 1) Lc st σ k n) := by
  unfold ab_ald at hh
  split at hh
  · rename_i e z st'
    cases hb : ab_ix C H c z e with
    | false => rw [hb] at hh; cases hh
    | true =>
    rw [hb] at hh
    dsimp only [cond_true] at hh
    obtain ⟨x, s1, rfl, g1, g2⟩ := ab_Vs_i hst
    obtain ⟨y, s', rfl, g3, g4⟩ := ab_Vs_a g2
    obtain ⟨p, rfl, h1, h2, h3, h4⟩ := ab_ix_ok h hp.1 g3 g1 hb
    cases hr : ab_rd C H c z.2.1 e with
    | none => rw [hr] at hh; cases hh
    | some q =>
      rw [hr] at hh
      obtain ⟨ν', u, g⟩ := ab_rd_ok h hp.1 h2 h4 hr
      exact ⟨h1, h3, ad_1_ok hh hs u (hL.ex u.2.1 u.2.2) ⟨g, g4.ex u.2.1 u.2.2⟩ (hp.ex u.2.1 u.2.2)⟩
  · cases hh
theorem ad_ials_ok {ms : Bool} {xs0 : ab_X} (hx0 : ms = true → xs0 = xs) (hxl : ab_xl ms xs C ν) (h : ab_cx xs C ν) (hL : ab_Ls C.1.length ν L Lc) (hst : ab_Vs C.1.length ν st sc) (hp : ad_hp σ0 C.1.length ν H σ) (hh : ab_ials ms pc C L st H k n = some o) (hs : ad_sem σ0 xs C ν K Q CP o) :
    bif m_isx sc 1 then m_s_xld xs0 sc (fun st => K (pc + 1) Lc st σ k n) else m_s_ald 13 σ sc (fun st => K (pc + 1) Lc st σ k n) := by
  unfold ab_ials at hh
  split at hh
  · rename_i e z st'
    cases hc : Nat.beq z.1 98 with
    | true =>
      rw [hc] at hh
      dsimp only [cond_true] at hh
      cases hb : (ms && (ab_nn C z && (ab_leq C (0, 0) e && ab_leq C (e.1, e.2 + 1) (1, 0)))) with
      | false => rw [hb] at hh; cases hh
      | true =>
        rw [hb] at hh
        rw [Bool.and_eq_true, Bool.and_eq_true, Bool.and_eq_true] at hb
        obtain ⟨b1, b2, b3, b4⟩ := hb
        obtain ⟨x, s1, rfl, g1, g2⟩ := ab_Vs_i hst
        obtain ⟨y, s', rfl, g3, g4⟩ := ab_Vs_a g2
        obtain ⟨p, rfl, h1, h2⟩ := ab_R_some h g3 b2
        rw [ab_isx (i := 1) (s' := s') (st' := .inl x :: .inr (.inr (some p)) :: s') rfl h1, hc]
        obtain ⟨w, e1, e2, e3⟩ := hxl b1
        rw [hx0 b1, e1]
        have a1 := ab_leq_ok h (ab_con h) g1 b3
        have a2 := ab_leq_ok1 h g1 e3 b4
        have e5 : ab_I C.1.length ν e (x.toNatClampNeg : Int) := by rw [ab_clamp a1]; exact g1
        obtain ⟨ν', u, g⟩ := ab_xc_ok h e1 e5
        exact ⟨vp_in_iff.mpr ⟨a1, a2⟩, ad_1_ok hh hs u (hL.ex u.2.1 u.2.2) ⟨g, g4.ex u.2.1 u.2.2⟩ (hp.ex u.2.1 u.2.2)⟩
    | false =>
      rw [hc] at hh
      dsimp only [cond_false] at hh
      have hst0 := hst
      obtain ⟨x, s1, rfl, g1, g2⟩ := ab_Vs_i hst
      obtain ⟨y, s', rfl, g3, g4⟩ := ab_Vs_a g2
      have hn : m_isx (.inl x :: .inr (.inr y) :: s') 1 = false := by
        cases y with
        | none => rfl
        | some p =>
          rw [ab_isx (i := 1) (s' := s') (st' := .inl x :: .inr (.inr (some p)) :: s') rfl g3.2.2.2.1]
          exact hc
      rw [hn]
      exact ad_ald_ok h hL hst0 hp hh hs
  · cases hh
theorem ad_aldq_ok (h : ab_cx xs C ν) (hL : ab_Ls C.1.length ν L Lc) (hst : ab_Vs C.1.length ν st sc) (hp : ad_hp σ0 C.1.length ν H σ) (hh : ab_aldq pc C L st H k n = some o) (hs : ad_sem σ0 xs C ν K Q CP o) : m_s_aldq σ sc (fun st => K (pc + 1) Lc st σ k n) := by
  unfold ab_aldq at hh
  split at hh
  · rename_i e z st'
    cases hb : (Nat.ble 16 z.1 && Nat.ble z.1 21) with
    | false => rw [hb] at hh; cases hh
    | true =>
      rw [hb] at hh
      rw [Bool.and_eq_true, Nat.ble_eq, Nat.ble_eq] at hb
      have g := ad_ald_ok h hL hst hp hh hs
      obtain ⟨x, s1, rfl, g1, g2⟩ := ab_Vs_i hst
      obtain ⟨y, s', rfl, g3, g4⟩ := ab_Vs_a g2
      cases y with
      | none => exact g.elim
      | some p =>
        obtain ⟨a1, a2, a3⟩ := g
        rw [← a1] at a2 a3 hb
        exact ⟨hb, a2, a3⟩
  · cases hh
theorem ad_ast_ok {c : Nat} (hc : 13 ≤ c) (h : ab_cx xs C ν) (hL : ab_Ls C.1.length ν L Lc) (hst : ab_Vs C.1.length ν st sc) (hp : ad_hp σ0 C.1.length ν H σ) (hh : ad_ast c pc C L st H k n = some o) (hs : ad_sem σ0 xs C ν K Q CP o) :
    ∃ v x p s', sc = v :: .inl x :: .inr (.inr (some p)) :: s' ∧ p.1 = c ∧ m_tp (m_ty c 0) v ∧ vp_in x (σ.2.1 c p.2) ∧ K (pc + 1) Lc s' (m_set σ c p.2 x.toNatClampNeg v) k n := by
  unfold ad_ast at hh
  split at hh
  · rename_i v e z st'
    cases hb : (ab_ix C H c z e && ab_tp C c 0 v) with
    | false => rw [hb] at hh; cases hh
    | true =>
    rw [hb] at hh
    rw [Bool.and_eq_true] at hb
    dsimp only [cond_true] at hh
    obtain ⟨w, s0, rfl, g5, g6⟩ := ab_Vs_c hst
    obtain ⟨x, s1, rfl, g1, g2⟩ := ab_Vs_i g6
    obtain ⟨y, s', rfl, g3, g4⟩ := ab_Vs_a g2
    obtain ⟨p, rfl, h1, h2, h3, h4⟩ := ab_ix_ok h hp.1 g3 g1 hb.1
    cases hr : ad_wr C H c z.2.1 e v with
    | none => rw [hr] at hh; cases hh
    | some H' =>
      rw [hr] at hh
      have ht := ab_tp_ok h g5 hb.2
      exact ⟨w, x, p, s', rfl, h1, ht, h3, ad_1_ok hh hs (ab_up.rf h) hL g4 (ad_wr_ok h hp h2 h4 g5 (by rw [m_ty_c hc]; exact ht) hr)⟩
  · cases hh
end ADB
/-! one step of the analysis holds of the model's step -/
section ADC
variable {xs : ab_X} {C : ab_C} {ν : ab_N} {σ0 : mS} {H : ab_H} {σ : mS} {L : List (Option ab_V)} {Lc : List (Option mV)} {st : List ab_V} {sc : List mV} {pc k n : Nat} {r : mRow} {o : ab_W} {K : Nat → List (Option mV) → List mV → mS → Nat → Nat → Prop} {Q : mX → mS → Prop} {CP : Nat → List mV → List mV → Prop} {R : Room}
theorem ad_iast_ok (h : ab_cx xs C ν) (hL : ab_Ls C.1.length ν L Lc) (hst : ab_Vs C.1.length ν st sc) (hp : ad_hp σ0 C.1.length ν H σ) (hh : ad_ast 13 pc C L st H k n = some o) (hs : ad_sem σ0 xs C ν K Q CP o) : m_s_iast σ sc (fun st σ => K (pc + 1) Lc st σ k n) := by
  obtain ⟨v, x, p, s', rfl, h1, h2, h3, h4⟩ := ad_ast_ok (by decide) h hL hst hp hh hs
  rcases v with w | w | w
  · exact ⟨h1, h3, h4⟩
  · exact absurd (show (0 : Nat) = 1 from h2) (by decide)
  · exact absurd (show (0 : Nat) = 2 from h2) (by decide)
theorem ad_last_ok (h : ab_cx xs C ν) (hL : ab_Ls C.1.length ν L Lc) (hst : ab_Vs C.1.length ν st sc) (hp : ad_hp σ0 C.1.length ν H σ) (hh : ad_ast 14 pc C L st H k n = some o) (hs : ad_sem σ0 xs C ν K Q CP o) : m_s_last σ sc (fun st σ => K (pc + 1) Lc st σ k n) := by
  obtain ⟨v, x, p, s', rfl, h1, h2, h3, h4⟩ := ad_ast_ok (by decide) h hL hst hp hh hs
  rcases v with w | w | w
  · have h2' : (1 : Nat) = 0 ∨ ((1 : Nat) = 3 ∧ _) := h2
    rcases h2' with h2' | h2'
    · cases h2'
    · exact absurd h2'.1 (by decide)
  · exact ⟨h1, h3, h4⟩
  · exact absurd (show (1 : Nat) = 2 from h2) (by decide)
theorem ad_zast_ok (h : ab_cx xs C ν) (hL : ab_Ls C.1.length ν L Lc) (hst : ab_Vs C.1.length ν st sc) (hp : ad_hp σ0 C.1.length ν H σ) (hh : ad_ast 15 pc C L st H k n = some o) (hs : ad_sem σ0 xs C ν K Q CP o) : m_s_zast σ sc (fun st σ => K (pc + 1) Lc st σ k n) := by
  obtain ⟨v, x, p, s', rfl, h1, h2, h3, h4⟩ := ad_ast_ok (by decide) h hL hst hp hh hs
  rcases v with w | w | w
  · have h2' : (3 : Nat) = 0 ∨ ((3 : Nat) = 3 ∧ (w = 0 ∨ w = 1)) := h2
    rcases h2' with h2' | h2'
    · cases h2'
    · exact ⟨h1, h2'.2, h3, h4⟩
  · exact absurd (show (3 : Nat) = 1 from h2) (by decide)
  · exact absurd (show (3 : Nat) = 2 from h2) (by decide)
theorem ad_astq_ok (h : ab_cx xs C ν) (hL : ab_Ls C.1.length ν L Lc) (hst : ab_Vs C.1.length ν st sc) (hp : ad_hp σ0 C.1.length ν H σ) (hh : ad_astq pc C L st H k n = some o) (hs : ad_sem σ0 xs C ν K Q CP o) : m_s_astq σ sc (fun st σ => K (pc + 1) Lc st σ k n) := by
  unfold ad_astq at hh
  split at hh
  · rename_i d e z st'
    cases hb : (Nat.ble 16 z.1 && (Nat.ble z.1 20 && (ab_nn C d && Nat.beq d.1 (m_el z.1)))) with
    | false => rw [hb] at hh; cases hh
    | true =>
    rw [hb] at hh
    rw [Bool.and_eq_true, Bool.and_eq_true, Bool.and_eq_true, Nat.ble_eq, Nat.ble_eq] at hb
    obtain ⟨b1, b2, b3, b4⟩ := hb
    obtain ⟨v, x, p, s', e0, h1, h2, h3, h4⟩ := ad_ast_ok (by omega) h hL hst hp hh hs
    obtain ⟨w, s1, rfl, g1, g2⟩ := ab_Vs_a hst
    obtain ⟨q, rfl, g3, g4⟩ := ab_R_some h g1 b3
    cases e0
    have e2 := Nat.eq_of_beq_eq_true b4
    rw [← h1] at b1 b2 h3 h4 e2
    exact ⟨g3.trans e2, ⟨b1, b2⟩, h3, h4⟩
  · cases hh
theorem ad_newo_ok {nL mc ms : Nat} (hc1 : r.2.2.1 ≠ 1) (h : ab_cx xs C ν) (hL : ab_Ls C.1.length ν L Lc) (hst : ab_Vs C.1.length ν st sc) (hp : ad_hp σ0 C.1.length ν H σ) (hh : ab_newo R nL mc ms r pc C L st H k n = some o) (hs : ad_sem σ0 xs C ν K Q CP o) :
    if r.2.2.1 < 13 then m_rm R (k + 1) (n + m_nf r.2.2.1) ∧ K (pc + 3) Lc (.inr (.inr (some (r.2.2.1, σ.1 r.2.2.1))) :: sc) (m_nu σ r.2.2.1 0) (k + 1) (n + m_nf r.2.2.1)
      else Lc.length = nL ∧ 5 < R.frames ∧ (sc.map m_cat).sum + 82 ≤ R.locals ∧ m_rm R (k + 1) (n + 6) ∧ k + 1 ≤ mc ∧ n + 6 ≤ ms ∧ Q (.inr (r.2.2.1 - 100)) σ := by
  unfold ab_newo at hh
  cases hb : Nat.blt r.2.2.1 13 with
  | true =>
    rw [hb] at hh
    rw [Nat.blt_eq] at hb
    rw [if_pos hb]
    dsimp only [cond_true] at hh
    cases hc : ab_cnt H r.2.2.1 with
    | none => rw [hc] at hh; cases hh
    | some e =>
      rw [hc] at hh
      dsimp only at hh
      cases hd : ab_rm R (k + 1) (n + m_nf r.2.2.1) with
      | false => rw [hd] at hh; cases hh
      | true =>
        rw [hd] at hh
        have g := ab_cnt_ok hp.1 hc
        have hz : ab_R C.1.length ν (r.2.2.1, e, (0, 1)) (some (r.2.2.1, σ.1 r.2.2.1)) := ⟨g.1, h.2.1, by show ν 0 + 1 = 1; rw [h.1.1]; rfl, rfl, g.2⟩
        exact ⟨ab_rm_ok hd, ad_1_ok hh hs (ab_up.rf h) hL ⟨hz, hst⟩ (ad_nw_ok hc1 h hp g (fun z => by cases z))⟩
  | false =>
    rw [hb] at hh
    have hb' : ¬ r.2.2.1 < 13 := fun z => by rw [Nat.blt_eq.mpr z] at hb; cases hb
    rw [if_neg hb']
    dsimp only [cond_false] at hh
    cases hc : (Nat.beq L.length nL && (Nat.blt 5 R.frames && (Nat.ble (ab_sum st + 82) R.locals && (ab_rm R (k + 1) (n + 6) && (Nat.ble (k + 1) mc && Nat.ble (n + 6) ms))))) with
    | false => rw [hc] at hh; cases hh
    | true =>
      rw [hc] at hh
      cases hh
      simp only [Bool.and_eq_true, Nat.ble_eq, Nat.blt_eq] at hc
      obtain ⟨c1, c2, c3, c4, c5, c6⟩ := hc
      exact ⟨hL.1.trans (Nat.eq_of_beq_eq_true c1), c2, by rw [ab_sum_ok hst]; exact c3, ab_rm_ok c4, c5, c6, hs ν _ σ (ab_up.rf h) rfl hp⟩
theorem ad_newa_ok {d : Nat} (h : ab_cx xs C ν) (hL : ab_Ls C.1.length ν L Lc) (hst : ab_Vs C.1.length ν st sc) (hp : ad_hp σ0 C.1.length ν H σ) (hh : ab_newa R r d pc C L st H k n = some o) (hs : ad_sem σ0 xs C ν K Q CP o) :
    m_s_newa R r σ sc k n (fun st σ n => K (pc + d) Lc st σ (k + 1) n) := by
  unfold ab_newa at hh
  split at hh
  · rename_i e st'
    cases hb : (Nat.beq e.1 0 && (ab_le 0 e.2 && (ab_le e.2 1000000 && (ab_rm R (k + 1) (n + e.2.toNat) && Nat.ble 13 r.2.2.1)))) with
    | false => rw [hb] at hh; cases hh
    | true =>
    rw [hb] at hh
    simp only [Bool.and_eq_true, ab_le_ok, Nat.ble_eq] at hb
    obtain ⟨b1, b2, b3, b4, b5⟩ := hb
    dsimp only [cond_true] at hh
    cases hc : ab_cnt H r.2.2.1 with
    | none => rw [hc] at hh; cases hh
    | some f =>
      rw [hc] at hh
      obtain ⟨x, s', rfl, g1, g2⟩ := ab_Vs_i hst
      have e0 := Nat.eq_of_beq_eq_true b1
      have hx : x.toInt = e.2 := by rw [g1.2, e0, h.1.1]; omega
      have hn : ¬ x < 0 := by
        rw [Int32.lt_iff_toInt_lt]
        show ¬ x.toInt < 0
        omega
      have hcl : x.toNatClampNeg = e.2.toNat := by
        show x.toInt.toNat = _
        rw [hx]
      have g := ab_cnt_ok hp.1 hc
      have hz : ab_R C.1.length ν (r.2.2.1, f, (0, 1)) (some (r.2.2.1, σ.1 r.2.2.1)) := ⟨g.1, h.2.1, by show ν 0 + 1 = 1; rw [h.1.1]; rfl, rfl, g.2⟩
      refine ⟨hn, by rw [hcl]; omega, by rw [hcl]; exact ab_rm_ok b4, ?_⟩
      show K (pc + d) Lc (.inr (.inr (some (r.2.2.1, σ.1 r.2.2.1))) :: s') (m_nu σ r.2.2.1 x.toNatClampNeg) (k + 1) (n + x.toNatClampNeg)
      rw [hcl]
      exact ad_1_ok hh hs (ab_up.rf h) hL ⟨hz, g2⟩ (ad_nw_ok (by omega) h hp g (fun _ => m_ty_c b5))
  · cases hh
theorem ad_mna_ok (h : ab_cx xs C ν) (hL : ab_Ls C.1.length ν L Lc) (hst : ab_Vs C.1.length ν st sc) (hp : ad_hp σ0 C.1.length ν H σ) (hh : ab_mna R pc C L st H k n = some o) (hs : ad_sem σ0 xs C ν K Q CP o) :
    m_s_mna R σ sc k n (fun st σ => K (pc + 4) Lc st σ (k + 5) (n + 16)) := by
  have g := ab_mna_ok (Q := fun _ _ => True) (CP := fun _ _ _ => True) (K := fun pc L st σ k n => ad_fr σ0 σ → K pc L st σ k n) h hL hst hp.1 hh (by
    rcases o with nx | e | c
    · exact fun q hq ν' Lc' sc' σ' u g1 g2 g3 g4 => hs q hq ν' Lc' sc' σ' u g1 g2 ⟨g3, g4⟩
    · exact fun _ _ _ _ _ _ => trivial
    · exact fun _ _ _ _ => trivial)
  unfold m_s_mna at g ⊢
  split at g
  · exact ⟨g.1, g.2.1, g.2.2.1, g.2.2.2 (ad_mn_ok hp.2)⟩
  · exact g.elim
theorem ad_callV_ok {y : mMt} {CC : Nat → List mV → mS → (mX → mS → Prop) → Prop} {T : mS → Nat → Nat → Nat → Prop} {F : List mV → mS → Nat → Nat → Prop} (h : ab_cx xs C ν) (hst : ab_Vs C.1.length ν st sc) (hh : ab_callV R y r C st k n = some o)
    (hs : ∀ c, o = .inr (.inr c) → ∀ avs sc', ab_Vs C.1.length ν c.2.1 avs → ab_Vs C.1.length ν c.2.2 sc' → CC c.1 avs σ (m_s_end T F sc' k n y)) : m_s_callV CC R T y r σ sc k n F := by
  unfold ab_callV at hh
  split at hh
  · rename_i z st' hd
    cases hb : (Nat.beq z.1 (m_p r 5) && (ab_nn C z && (Nat.beq (st.take r.2.2.2.1).length r.2.2.2.1 && (Nat.ble (ab_sum st') 8 && ab_rm R (k + y.2.2.2.2.1.cells) (n + y.2.2.2.2.1.slots))))) with
    | false => rw [hb] at hh; cases hh
    | true =>
    rw [hb] at hh
    cases hh
    simp only [Bool.and_eq_true, Nat.ble_eq] at hb
    obtain ⟨b1, b2, b3, b4, b5⟩ := hb
    have g := ab_Vs_drop (i := r.2.2.2.1) hst
    rw [hd] at g
    obtain ⟨w, s', e0, g1, g2⟩ := ab_Vs_a g
    obtain ⟨p, rfl, g3, g4⟩ := ab_R_some h g1 b2
    have gt := ab_Vs_take (i := r.2.2.2.1) hst
    have e1 := Nat.eq_of_beq_eq_true b1
    unfold m_s_callV
    rw [e0]
    refine ⟨g3.trans e1, (ab_Vs_len gt).trans (Nat.eq_of_beq_eq_true b3), by rw [ab_sum_ok g2]; exact b4, ab_rm_ok b5, hs _ rfl _ _ ⟨?_, ab_Vs_rev gt⟩ g2⟩
    have e2 : (some (m_p r 5, p.2) : mR) = some p := congrArg some (Prod.ext (by show m_p r 5 = p.1; rw [g3, e1]) rfl)
    rw [e2]
    exact g1
  · cases hh
theorem ad_callS_ok {y : mMt} {CC : Nat → List mV → mS → (mX → mS → Prop) → Prop} {T : mS → Nat → Nat → Nat → Prop} {F : List mV → mS → Nat → Nat → Prop} (hst : ab_Vs C.1.length ν st sc) (hh : ab_callS R y r st k n = some o)
    (hs : ∀ c, o = .inr (.inr c) → ∀ avs sc', ab_Vs C.1.length ν c.2.1 avs → ab_Vs C.1.length ν c.2.2 sc' → CC c.1 avs σ (m_s_end T F sc' k n y)) : m_s_callS CC R T y r σ sc k n F := by
  unfold ab_callS at hh
  cases hb : (Nat.beq (st.take r.2.2.2.1).length r.2.2.2.1 && (Nat.ble (ab_sum (st.drop r.2.2.2.1)) 8 && ab_rm R (k + y.2.2.2.2.1.cells) (n + y.2.2.2.2.1.slots))) with
  | false => rw [hb] at hh; cases hh
  | true =>
    rw [hb] at hh
    cases hh
    simp only [Bool.and_eq_true, Nat.ble_eq] at hb
    obtain ⟨b3, b4, b5⟩ := hb
    have gt := ab_Vs_take (i := r.2.2.2.1) hst
    have gd := ab_Vs_drop (i := r.2.2.2.1) hst
    exact ⟨(ab_Vs_len gt).trans (Nat.eq_of_beq_eq_true b3), by rw [ab_sum_ok gd]; exact b4, ab_rm_ok b5, hs _ rfl _ _ (ab_Vs_rev gt) gd⟩
theorem ad_math_ok {a : Nat} (h : ab_cx xs C ν) (hL : ab_Ls C.1.length ν L Lc) (hst : ab_Vs C.1.length ν st sc) (hp : ad_hp σ0 C.1.length ν H σ) (hh : ab_math R a pc C L st H k n = some o) (hs : ad_sem σ0 xs C ν K Q CP o) : m_s_math R a sc (fun st => K (pc + 3) Lc st σ k n) := by
  unfold ab_math at hh
  split at hh
  · rename_i f e st'
    cases hb : Nat.ble (ab_sum st' + 13) R.locals with
    | false => rw [hb] at hh; cases hh
    | true =>
    rw [hb] at hh
    obtain ⟨y, s1, rfl, g1, g2⟩ := ab_Vs_i hst
    obtain ⟨x, s', rfl, g3, g4⟩ := ab_Vs_i g2
    obtain ⟨ν', u, g⟩ := ab_max_ok (z := (if x < y then y else x).toInt) h g3 g1 ⟨fun z => by
      by_cases q : x < y
      · rw [if_pos q]
      · rw [if_neg q]
        rw [Int32.lt_iff_toInt_lt] at q
        omega, fun z => by
      rw [if_neg (fun q => by rw [Int32.lt_iff_toInt_lt] at q; omega)]⟩
    exact ⟨ab_sumle g4 hb, ad_1_ok hh hs u (hL.ex u.2.1 u.2.2) ⟨g, g4.ex u.2.1 u.2.2⟩ (hp.ex u.2.1 u.2.2)⟩
  · rename_i f e st'
    cases hb : Nat.ble (ab_sum st' + 13) R.locals with
    | false => rw [hb] at hh; cases hh
    | true =>
    rw [hb] at hh
    obtain ⟨y, s1, rfl, g1, g2⟩ := ab_Vs_i hst
    obtain ⟨x, s', rfl, g3, g4⟩ := ab_Vs_i g2
    obtain ⟨ν', u, g⟩ := ab_min_ok (z := (if y < x then y else x).toInt) h g3 g1 ⟨fun z => by
      rw [if_neg (fun q => by rw [Int32.lt_iff_toInt_lt] at q; omega)], fun z => by
      by_cases q : y < x
      · rw [if_pos q]
      · rw [if_neg q]
        rw [Int32.lt_iff_toInt_lt] at q
        omega⟩
    exact ⟨ab_sumle g4 hb, ad_1_ok hh hs u (hL.ex u.2.1 u.2.2) ⟨g, g4.ex u.2.1 u.2.2⟩ (hp.ex u.2.1 u.2.2)⟩
  · rename_i e st'
    cases hb : Nat.ble (ab_sum st' + 13) R.locals with
    | false => rw [hb] at hh; cases hh
    | true =>
    rw [hb] at hh
    obtain ⟨x, s', rfl, g3, g4⟩ := ab_Vs_i hst
    obtain ⟨ν', u, g⟩ := ab_abs_ok h g3
    exact ⟨ab_sumle g4 hb, ad_1_ok hh hs u (hL.ex u.2.1 u.2.2) ⟨g, g4.ex u.2.1 u.2.2⟩ (hp.ex u.2.1 u.2.2)⟩
  · rename_i f e st'
    cases hb : Nat.ble (ab_sum st' + 15) R.locals with
    | false => rw [hb] at hh; cases hh
    | true =>
    rw [hb] at hh
    obtain ⟨y, s1, rfl, g1, g2⟩ := ab_Vs_l hst
    obtain ⟨x, s', rfl, g3, g4⟩ := ab_Vs_l g2
    obtain ⟨ν', u, g⟩ := ab_max_ok (z := (if y < x then x else y).toInt) h g3 g1 ⟨fun z => by
      rw [if_neg (fun q => by rw [Int64.lt_iff_toInt_lt] at q; omega)], fun z => by
      by_cases q : y < x
      · rw [if_pos q]
      · rw [if_neg q]
        rw [Int64.lt_iff_toInt_lt] at q
        omega⟩
    exact ⟨ab_sumle g4 hb, ad_1_ok hh hs u (hL.ex u.2.1 u.2.2) ⟨g, g4.ex u.2.1 u.2.2⟩ (hp.ex u.2.1 u.2.2)⟩
  · rename_i f e st'
    cases hb : Nat.ble (ab_sum st' + 15) R.locals with
    | false => rw [hb] at hh; cases hh
    | true =>
    rw [hb] at hh
    obtain ⟨y, s1, rfl, g1, g2⟩ := ab_Vs_l hst
    obtain ⟨x, s', rfl, g3, g4⟩ := ab_Vs_l g2
    obtain ⟨ν', u, g⟩ := ab_min_ok (z := (if y < x then y else x).toInt) h g3 g1 ⟨fun z => by
      rw [if_neg (fun q => by rw [Int64.lt_iff_toInt_lt] at q; omega)], fun z => by
      by_cases q : y < x
      · rw [if_pos q]
      · rw [if_neg q]
        rw [Int64.lt_iff_toInt_lt] at q
        omega⟩
    exact ⟨ab_sumle g4 hb, ad_1_ok hh hs u (hL.ex u.2.1 u.2.2) ⟨g, g4.ex u.2.1 u.2.2⟩ (hp.ex u.2.1 u.2.2)⟩
  · cases hh
theorem ad_obj_ok (h : ab_cx xs C ν) (hL : ab_Ls C.1.length ν L Lc) (hst : ab_Vs C.1.length ν st sc) (hp : ad_hp σ0 C.1.length ν H σ) (hh : ab_obj R pc C L st H k n = some o) (hs : ad_sem σ0 xs C ν K Q CP o) : m_s_obj R sc (fun st => K (pc + 3) Lc st σ k n) := by
  unfold ab_obj at hh
  split at hh
  · rename_i z st'
    cases hb : (ab_nn C z && Nat.ble (ab_sum st' + 12) R.locals) with
    | false => rw [hb] at hh; cases hh
    | true =>
      rw [hb] at hh
      rw [Bool.and_eq_true] at hb
      obtain ⟨y, s', rfl, g1, g2⟩ := ab_Vs_a hst
      obtain ⟨p, rfl, h1, h2⟩ := ab_R_some h g1 hb.1
      exact ⟨ab_sumle g2 hb.2, ad_1_ok hh hs (ab_up.rf h) hL g2 hp⟩
  · cases hh
theorem ad_iret_ok {rt : Option FieldType} (h : ab_cx xs C ν) (hst : ab_Vs C.1.length ν st sc) (hp : ad_hp σ0 C.1.length ν H σ) (hh : ab_iret rt C st H = some o) (hs : ad_sem σ0 xs C ν K Q CP o) : m_s_iret rt sc (fun v => Q (.inl (some (.inl v))) σ) := by
  unfold ab_iret at hh
  split at hh
  · rename_i e
    cases hb : (Nat.beq (ab_rt rt) 1 || (Nat.beq (ab_rt rt) 2 && (ab_le 0 (ab_iv C.1 e).1 && ab_le (ab_iv C.1 e).2 1))) with
    | false => rw [hb] at hh; cases hh
    | true =>
      rw [hb] at hh
      cases hh
      simp only [Bool.or_eq_true, Bool.and_eq_true, ab_le_ok] at hb
      obtain ⟨x, s', rfl, g1, g2⟩ := ab_Vs_i hst
      have e1 := ab_Vs_0 g2
      subst e1
      refine ⟨?_, hs ν _ σ (ab_up.rf h) g1 hp⟩
      rcases hb with hb | ⟨hb, b1, b2⟩
      · have e2 := Nat.eq_of_beq_eq_true hb
        refine Or.inl ?_
        unfold ab_rt at e2
        split at e2 <;> first | rfl | (exact absurd e2 (by decide))
      · have e2 := Nat.eq_of_beq_eq_true hb
        have b := ab_iv_ok h.1 g1
        refine Or.inr ⟨?_, ?_⟩
        · unfold ab_rt at e2
          split at e2 <;> first | rfl | (exact absurd e2 (by decide))
        · have h4 : x.toInt = 0 ∨ x.toInt = 1 := by omega
          rcases h4 with h4 | h4
          · exact Or.inl (Int32.toInt_inj.mp h4)
          · exact Or.inr (Int32.toInt_inj.mp h4)
  · cases hh
theorem ad_lret_ok {rt : Option FieldType} (h : ab_cx xs C ν) (hst : ab_Vs C.1.length ν st sc) (hp : ad_hp σ0 C.1.length ν H σ) (hh : ab_lret rt C st H = some o) (hs : ad_sem σ0 xs C ν K Q CP o) : m_s_lret rt sc (fun v => Q (.inl (some (.inr (.inl v)))) σ) := by
  unfold ab_lret at hh
  split at hh
  · rename_i e
    cases hb : Nat.beq (ab_rt rt) 3 with
    | false => rw [hb] at hh; cases hh
    | true =>
      rw [hb] at hh
      cases hh
      obtain ⟨x, s', rfl, g1, g2⟩ := ab_Vs_l hst
      have e1 := ab_Vs_0 g2
      subst e1
      refine ⟨?_, hs ν _ σ (ab_up.rf h) g1 hp⟩
      have e2 := Nat.eq_of_beq_eq_true hb
      unfold ab_rt at e2
      split at e2 <;> first | rfl | (exact absurd e2 (by decide))
  · cases hh
theorem ad_aret_ok {rt : Option FieldType} (h : ab_cx xs C ν) (hst : ab_Vs C.1.length ν st sc) (hp : ad_hp σ0 C.1.length ν H σ) (hh : ab_aret rt C st H = some o) (hs : ad_sem σ0 xs C ν K Q CP o) : m_s_aret rt sc (fun v => Q (.inl (some (.inr (.inr v)))) σ) := by
  unfold ab_aret at hh
  split at hh
  · rename_i e
    cases hb : Nat.beq (ab_rt rt) 4 with
    | false => rw [hb] at hh; cases hh
    | true =>
      rw [hb] at hh
      cases hh
      obtain ⟨x, s', rfl, g1, g2⟩ := ab_Vs_a hst
      have e1 := ab_Vs_0 g2
      subst e1
      refine ⟨?_, hs ν _ σ (ab_up.rf h) g1 hp⟩
      have e2 := Nat.eq_of_beq_eq_true hb
      unfold ab_rt at e2
      split at e2 <;> first | rfl | (exact absurd e2 (by decide))
  · cases hh
theorem ad_vret_ok {rt : Option FieldType} (h : ab_cx xs C ν) (hst : ab_Vs C.1.length ν st sc) (hp : ad_hp σ0 C.1.length ν H σ) (hh : ab_vret rt C st H = some o) (hs : ad_sem σ0 xs C ν K Q CP o) : rt = none ∧ sc = [] ∧ Q (.inl none) σ := by
  unfold ab_vret at hh
  split at hh
  · cases hb : Nat.beq (ab_rt rt) 0 with
    | false => rw [hb] at hh; cases hh
    | true =>
      rw [hb] at hh
      cases hh
      refine ⟨?_, ab_Vs_0 hst, hs ν _ σ (ab_up.rf h) trivial hp⟩
      have e2 := Nat.eq_of_beq_eq_true hb
      unfold ab_rt at e2
      split at e2 <;> first | rfl | (exact absurd e2 (by decide))
  · cases hh
theorem ad_sw_ok {d lo hi : Int} {offs : Array Int} {ln ra rb : Nat} {rz : Int} {rp : List Nat} (h : ab_cx xs C ν) (hL : ab_Ls C.1.length ν L Lc) (hst : ab_Vs C.1.length ν st sc) (hp : ad_hp σ0 C.1.length ν H σ) (hh : ab_sw d lo hi offs pc C L st H k n = some o) (hs : ad_sem σ0 xs C ν K Q CP o) :
    m_s_bare (.tableswitch d lo hi offs, ln, ra, rb, rz, rp) pc Lc sc (fun pc L st => K pc L st σ k n) := by
  unfold ab_sw at hh
  split at hh
  · rename_i e st'
    cases hz : ab_le (hi + 1) (lo + (offs.size : Int)) with
    | false => rw [hz] at hh; cases hh
    | true =>
    rw [hz] at hh
    rw [ab_le_ok] at hz
    cases hh
    obtain ⟨x, s', rfl, g1, g2⟩ := ab_Vs_i hst
    have b := ab_iv_ok h.1 g1
    show (match (if x.toInt < lo ∨ hi < x.toInt then some (((pc : Int) + d).toNat, Lc, s') else match offs[(x.toInt - lo).toNat]? with
      | some o => some (((pc : Int) + o).toNat, Lc, s')
      | none => none) with
      | some q => K q.1 q.2.1 q.2.2 σ k n
      | none => False)
    by_cases hout : x.toInt < lo ∨ hi < x.toInt
    · rw [if_pos hout]
      have hb : (ab_le lo (ab_iv C.1 e).1 && ab_le (ab_iv C.1 e).2 hi) = false := by
        cases hb : (ab_le lo (ab_iv C.1 e).1 && ab_le (ab_iv C.1 e).2 hi) with
        | false => rfl
        | true => rw [Bool.and_eq_true, ab_le_ok, ab_le_ok] at hb; omega
      exact hs (C, ((pc : Int) + d).toNat, L, st', H, k, n) (List.mem_append_right _ (by rw [hb]; exact List.mem_cons_self)) ν Lc s' σ (ab_up.rf h) hL g2 hp
    · rw [if_neg hout]
      have hj : (x.toInt - lo).toNat < offs.size := by omega
      have hoj := Array.getElem?_eq_getElem hj
      rw [hoj]
      obtain ⟨q, q1, q2, q3, q4⟩ := ab_tb_ok (pc := pc) (L := L) (st := st') (H := H) (k := k) (n := n) h g1 offs.toList lo (x.toInt - lo).toNat _ (by rw [Array.getElem?_toList]; exact hoj) (by omega)
      have hK := hs q (List.mem_append_left _ q1) ν Lc s' σ (ab_cx_up ⟨q3, q4⟩)
      rw [q4, q2] at hK
      exact hK hL g2 hp
  · cases hh
theorem ad_bare_ok (h : ab_cx xs C ν) (hL : ab_Ls C.1.length ν L Lc) (hst : ab_Vs C.1.length ν st sc) (hp : ad_hp σ0 C.1.length ν H σ) (hh : ab_bare r pc C L st H k n = some o) (hs : ad_sem σ0 xs C ν K Q CP o) : m_s_bare r pc Lc sc (fun pc L st => K pc L st σ k n) := by
  unfold ab_bare at hh
  unfold m_s_bare
  cases hb : ab_br r C st with
  | some q =>
    rw [hb] at hh
    dsimp only at hh
    obtain ⟨P, s', e1, g1, g2, g3, g4⟩ := ab_br_ok h hst hb
    rw [e1]
    dsimp only
    cases hq : q.1 with
    | none =>
      rw [hq] at hh
      cases hh
      refine ⟨fun hP => ?_, fun hP => ?_⟩
      · have u := ab_cx_up (g3 hP)
        exact hs _ List.mem_cons_self ν Lc s' σ u (hL.ex u.2.1 u.2.2) (g1.ex u.2.1 u.2.2) (hp.ex u.2.1 u.2.2)
      · have u := ab_cx_up (g4 hP)
        exact hs _ (List.mem_cons_of_mem _ List.mem_cons_self) ν Lc s' σ u (hL.ex u.2.1 u.2.2) (g1.ex u.2.1 u.2.2) (hp.ex u.2.1 u.2.2)
    | some b =>
      rw [hq] at hh
      have hP := g2 b hq
      cases b with
      | true => exact ⟨fun _ => ad_1_ok hh hs (ab_up.rf h) hL g1 hp, fun z => absurd (hP.mpr rfl) z⟩
      | false => exact ⟨(fun z => Bool.noConfusion (hP.mp z)), fun _ => ad_1_ok hh hs (ab_up.rf h) hL g1 hp⟩
  | none =>
    rw [hb] at hh
    dsimp only at hh
    cases hq : ab_pu r pc C L st with
    | none => rw [hq] at hh; cases hh
    | some q =>
      rw [hq] at hh
      obtain ⟨e1, ν', Lc', sc', e2, u, g1, g2⟩ := ab_pu_ok h hL hst hq
      rw [e1]
      dsimp only
      rw [e2]
      exact ad_1_ok hh hs u g1 g2 (hp.ex u.2.1 u.2.2)
end ADC
/-! one step of the analysis holds: all instructions -/
section ADD
variable {xs : ab_X} {C : ab_C} {ν : ab_N} {σ0 : mS} {H : ab_H} {σ : mS} {L : List (Option ab_V)} {Lc : List (Option mV)} {st : List ab_V} {sc : List mV} {pc k n : Nat} {o : ab_W} {K : Nat → List (Option mV) → List mV → mS → Nat → Nat → Prop} {Q : mX → mS → Prop}
theorem ad_callP {CC : Nat → List mV → mS → (mX → mS → Prop) → Prop} {T : mS → Nat → Nat → Nat → Prop} {F : List mV → mS → Nat → Nat → Prop} {j : Nat} {y' : mMt} (hy : m_mt[j]? = some y') (hs : ad_sem σ0 xs C ν K Q (fun j avs sc' => ∀ y', m_mt[j]? = some y' → CC j avs σ (m_s_end T F sc' k n y')) o)
    (hj : ∀ c, o = .inr (.inr c) → c.1 = j) : ∀ c, o = .inr (.inr c) → ∀ avs sc', ab_Vs C.1.length ν c.2.1 avs → ab_Vs C.1.length ν c.2.2 sc' → CC c.1 avs σ (m_s_end T F sc' k n y') := by
  intro c hc avs sc' g1 g2
  have e := hj c hc
  subst hc
  exact hs avs sc' g1 g2 y' (by rw [e]; exact hy)
theorem ad_callV_j {R : Room} {y : mMt} {r : mRow} (hh : ab_callV R y r C st k n = some o) : ∀ c, o = .inr (.inr c) → c.1 = r.2.2.1 := by
  unfold ab_callV at hh
  split at hh
  · rename_i z st' hd
    cases hb : (Nat.beq z.1 (m_p r 5) && (ab_nn C z && (Nat.beq (st.take r.2.2.2.1).length r.2.2.2.1 && (Nat.ble (ab_sum st') 8 && ab_rm R (k + y.2.2.2.2.1.cells) (n + y.2.2.2.2.1.slots))))) with
    | false => rw [hb] at hh; cases hh
    | true =>
      rw [hb] at hh
      cases hh
      intro c hc
      cases hc
      rfl
  · cases hh
theorem ad_callS_j {R : Room} {y : mMt} {r : mRow} (hh : ab_callS R y r st k n = some o) : ∀ c, o = .inr (.inr c) → c.1 = r.2.2.1 := by
  unfold ab_callS at hh
  cases hb : (Nat.beq (st.take r.2.2.2.1).length r.2.2.2.1 && (Nat.ble (ab_sum (st.drop r.2.2.2.1)) 8 && ab_rm R (k + y.2.2.2.2.1.cells) (n + y.2.2.2.2.1.slots))) with
  | false => rw [hb] at hh; cases hh
  | true =>
    rw [hb] at hh
    cases hh
    intro c hc
    cases hc
    rfl
set_option maxHeartbeats 4000000 in
theorem ad_stp_ok {ms : Bool} {xs0 : ab_X} {y : mMt} {rows : List (Nat × mRow)} {CC : Nat → List mV → mS → (mX → mS → Prop) → Prop} {T : Nat → List (Option mV) → mS → Nat → Nat → Nat → Prop} (hx0 : ms = true → xs0 = xs) (hxl : ab_xl ms xs C ν) (h : ab_cx xs C ν) (hL : ab_Ls C.1.length ν L Lc) (hst : ab_Vs C.1.length ν st sc) (hp : ad_hp σ0 C.1.length ν H σ) (hh : ad_stp ms y rows pc C L st H k n = some o)
    (hs : ad_sem σ0 xs C ν K Q (fun j avs sc' => ∀ y', m_mt[j]? = some y' → CC j avs σ (m_s_end (T pc Lc) (fun st σ k n => K (pc + 3) Lc st σ k n) sc' k n y')) o) :
    m_step m_mt CC y.2.2.2.1 y.2.2.2.2.1 y.2.2.1 rows y.2.2.2.2.1.cells y.2.2.2.2.1.slots Q xs0 T K pc Lc sc σ k n := by
  unfold ad_stp at hh
  unfold m_step
  cases hr : m_at rows pc with
  | none => rw [hr] at hh; cases hh
  | some r =>
  rw [hr] at hh
  obtain ⟨ig, ln, ra, rb, rz, rp⟩ := r
  dsimp only at hh ⊢
  cases ig
  case getfield i => exact ad_get_ok h hL hst hp hh hs
  case putfield i => exact ad_putf_ok h hL hst hp hh hs
  case arraylength => exact ad_len_ok hx0 hxl h hL hst hp hh hs
  case iaload => exact ad_ials_ok hx0 hxl h hL hst hp hh hs
  case laload => exact ad_ald_ok h hL hst hp hh hs
  case baload => exact ad_ald_ok h hL hst hp hh hs
  case aaload => exact ad_aldq_ok h hL hst hp hh hs
  case iastore => exact ad_iast_ok h hL hst hp hh hs
  case lastore => exact ad_last_ok h hL hst hp hh hs
  case bastore => exact ad_zast_ok h hL hst hp hh hs
  case aastore => exact ad_astq_ok h hL hst hp hh hs
  case new i =>
    dsimp only at hh ⊢
    cases hb : Nat.beq ra 1 with
    | true => rw [hb] at hh; cases hh
    | false =>
      rw [hb] at hh
      exact ad_newo_ok (fun z => by
        have z : ra = 1 := z
        rw [z] at hb; cases hb) h hL hst hp hh hs
  case newarray i => exact ad_newa_ok h hL hst hp hh hs
  case anewarray i => exact ad_newa_ok h hL hst hp hh hs
  case invokevirtual i =>
    dsimp only at hh ⊢
    cases hb : Nat.beq L.length y.2.2.1 with
    | false => rw [hb] at hh; cases hh
    | true =>
      rw [hb] at hh
      dsimp only [cond_true] at hh
      refine ⟨hL.1.trans (Nat.eq_of_beq_eq_true hb), ?_⟩
      cases hy : m_mt[ra]? with
      | none => rw [hy] at hh; cases hh
      | some y' =>
        rw [hy] at hh
        exact ad_callV_ok h hst hh (ad_callP hy hs (ad_callV_j hh))
  case invokespecial i =>
    dsimp only at hh ⊢
    cases hb : Nat.beq L.length y.2.2.1 with
    | false => rw [hb] at hh; cases hh
    | true =>
      rw [hb] at hh
      dsimp only [cond_true] at hh
      refine ⟨hL.1.trans (Nat.eq_of_beq_eq_true hb), ?_⟩
      cases hc : Nat.beq ra 2000 with
      | true =>
        rw [hc] at hh
        rw [if_pos (Nat.eq_of_beq_eq_true hc)]
        exact ad_obj_ok h hL hst hp hh hs
      | false =>
        rw [hc] at hh
        dsimp only [cond_false] at hh
        rw [if_neg (fun z => by rw [z] at hc; cases hc)]
        cases hy : m_mt[ra]? with
        | none => rw [hy] at hh; cases hh
        | some y' =>
          rw [hy] at hh
          exact ad_callV_ok h hst hh (ad_callP hy hs (ad_callV_j hh))
  case invokestatic i =>
    dsimp only at hh ⊢
    cases hb : (Nat.beq L.length y.2.2.1 && ab_rm y.2.2.2.2.1 k n) with
    | false => rw [hb] at hh; cases hh
    | true =>
      rw [hb] at hh
      rw [Bool.and_eq_true] at hb
      dsimp only [cond_true] at hh
      refine ⟨hL.1.trans (Nat.eq_of_beq_eq_true hb.1), ab_rm_ok hb.2, ?_⟩
      cases hc : Nat.ble 1000 ra with
      | true =>
        rw [hc] at hh
        rw [if_pos (Nat.le_of_ble_eq_true hc)]
        exact ad_math_ok h hL hst hp hh hs
      | false =>
        rw [hc] at hh
        dsimp only [cond_false] at hh
        rw [if_neg (fun z => by rw [Nat.ble_eq.mpr z] at hc; cases hc)]
        cases hy : m_mt[ra]? with
        | none => rw [hy] at hh; cases hh
        | some y' =>
          rw [hy] at hh
          exact ad_callS_ok hst hh (ad_callP hy hs (ad_callS_j hh))
  case ireturn =>
    dsimp only at hh ⊢
    cases hb : ab_rm y.2.2.2.2.1 k n with
    | false => rw [hb] at hh; cases hh
    | true =>
      rw [hb] at hh
      have g := ab_rm_ok hb
      exact ⟨g.1, g.2, ad_iret_ok h hst hp hh hs⟩
  case lreturn =>
    dsimp only at hh ⊢
    cases hb : ab_rm y.2.2.2.2.1 k n with
    | false => rw [hb] at hh; cases hh
    | true =>
      rw [hb] at hh
      have g := ab_rm_ok hb
      exact ⟨g.1, g.2, ad_lret_ok h hst hp hh hs⟩
  case areturn =>
    dsimp only at hh ⊢
    cases hb : ab_rm y.2.2.2.2.1 k n with
    | false => rw [hb] at hh; cases hh
    | true =>
      rw [hb] at hh
      have g := ab_rm_ok hb
      exact ⟨g.1, g.2, ad_aret_ok h hst hp hh hs⟩
  case return_ =>
    dsimp only at hh ⊢
    cases hb : ab_rm y.2.2.2.2.1 k n with
    | false => rw [hb] at hh; cases hh
    | true =>
      rw [hb] at hh
      have g := ab_rm_ok hb
      exact ⟨g.1, g.2, ad_vret_ok h hst hp hh hs⟩
  case multianewarray i d => exact ad_mna_ok h hL hst hp hh hs
  case tableswitch d lo hi offs => exact ad_sw_ok h hL hst hp hh hs
  all_goals exact ad_bare_ok h hL hst hp hh hs
end ADD
