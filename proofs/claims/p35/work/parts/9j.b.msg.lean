/-! contracts that know the messages ahead -/
theorem ac_app_ok {xs : ab_X} {C : ab_C} {ν : ab_N} {kp : ac_Kp} {σ0 σ σ' : mS} {H : ac_H} {ct : ac_Ct} {args : List ab_V} {avs : List mV} {x : mX} {outs : List ac_Q} {Q : mX → mS → Prop} (h : ab_cx xs C ν) (ha : ab_Vs C.1.length ν args avs) (hp : ac_hp kp σ0 C.1.length ν H σ) (hs : ac_app kp ct args C H = some outs)
    (hk : ac_KK kp.1 σ') (hfr : ac_fr ct.2.2.1 σ σ') (hc : σ'.1 1 = σ.1 1) (hres : ac_res ct avs x σ') (hQ : ∀ e ∈ outs, ∀ ν' x σ', ab_up xs C ν e.1 ν' → ab_xo e.1.1.length ν' e.2.1 x → ac_hp kp σ0 e.1.1.length ν' e.2.2 σ' → Q x σ') : Q x σ' := by
  unfold ac_app at hs
  cases hb : (ac_inL C args ct.2.1 && ac_subW ct.2.2.1 kp.2) with
  | false => rw [hb] at hs; cases hs
  | true =>
  rw [hb] at hs
  rw [Bool.and_eq_true] at hb
  have hs := Option.some.inj hs
  cases x with
  | inr b =>
    have hres : b ∈ ct.2.2.2.2.1 := hres
    refine hQ (C, .inr b, (H.1, ac_oF C ct.2.2.1 H.2.1, [])) (by rw [← hs]; exact List.mem_append_right _ (List.mem_map.mpr ⟨b, hres, rfl⟩)) ν (.inr b) σ' (ab_up.rf h) rfl ⟨hk, ac_fr_tr hp.2.1 hfr hb.2, ac_cn_fr hp.2.2.1 hc, ac_oF_ok h hp.2.2.2.1 hfr hc, fun g hg => by cases hg⟩
  | inl r =>
    obtain ⟨⟨t, t1, t2⟩, hps⟩ := hres
    have hmem : ac_nrm ct args C H t ∈ outs := by
      rw [← hs, t1]
      exact List.mem_append_left _ List.mem_cons_self
    have hq := hQ _ hmem
    obtain ⟨ν1, u1, g1⟩ := ac_gN_ok (H := H) h ha hp.2.2.2.1 hp.2.2.2.2 hfr hps
    cases t with
    | none =>
      cases r with
      | some _ => exact t2.elim
      | none => exact ac_nr_ok (v := none) h ha hp hk hfr hc hb.2 hps u1 trivial g1 hq
    | some T =>
      cases r with
      | none => exact t2.elim
      | some w =>
        obtain ⟨ν2, u2, g2⟩ := ab_of_ok u1.1 (show ab_Tr T w from t2)
        exact ac_nr_ok (v := some (ab_of (ac_gN C H.2.1 args ct H.2.2).1 T).2) h ha hp hk hfr hc hb.2 hps (u1.tr u2) g2 (fun g hg => (g1 g hg).ex u2.2.1 u2.2.2) hq
/-- the contract holds, and at most 60000 messages come -/
def ac_cmk (l : Launch) (ct : ac_Ct) : Prop := ∀ (avs : List mV) (σ : mS) (m : Int), ac_TrL ct.2.1 avs → ac_KK ac_K0 σ → ac_ms0 σ m → 0 ≤ m → m ≤ 30660000 → ∀ Q : mX → mS → Prop, (∀ x σ' m', ac_KK ac_K0 σ' → ac_fr ct.2.2.1 σ σ' → σ'.1 1 = σ.1 1 → ac_res ct avs x σ' → ac_ms0 σ' m' → 0 ≤ m' → m' ≤ m + 60000 → Q x σ') → m_ConI l ct.1 avs σ Q
def ac_mm (e : ab_E) (q : ac_Q) : ac_Q := (ab_asle (ab_fr q.1 0 30720000).1 (ab_fr q.1 0 30720000).2 (e.1, e.2 + 60000), q.2.1, (q.2.2.1, (12, (0, 0), (0, 50), .inl (ab_fr q.1 0 30720000).2) :: q.2.2.2.1, q.2.2.2.2))
def ac_SPm (cms : List ac_Ct) (kp : ac_Kp) : ac_SP := fun j args C H => match cms.find? (fun ct => Nat.beq ct.1 j && ac_inL C args ct.2.1) with
  | some ct => (match ac_find C H.2.1 12 (0, 0) (0, 50) with
    | some (.inl e) => bif ab_le 0 (ab_iv C.1 e).1 && ab_le (ab_iv C.1 e).2 30660000 then (match ac_app kp ct args C H with
      | some outs => some (outs.map (ac_mm e))
      | none => none) else none
    | _ => none)
  | none => ac_SPl kp j args C H
theorem ac_ov_ms {n : Nat} {ν : ab_N} {σ : mS} {e : ab_E} {m : Int} (h0 : ν 0 = 0) (hn : 0 < n) (he : ab_I n ν e m) (hm : ac_ms0 σ m) : ac_ov n ν σ (12, (0, 0), (0, 50), .inl e) := by
  obtain ⟨w, w1, w2⟩ := hm
  refine ⟨⟨hn, he.1⟩, hn, fun i k hi hk => ?_⟩
  have e1 : i = 0 := by have hi : (i : Int) = ν 0 + 0 := hi; omega
  have e2 : k = 50 := by have hk : (k : Int) = ν 0 + 50 := hk; omega
  subst e1; subst e2
  show ab_Vr _ _ (.inl e) (m_get σ 12 0 50)
  rw [w1]
  show ab_I _ _ _ w.toInt
  rw [w2]
  exact he
theorem ac_SPm_ok {l : Launch} (hl : l.stackTraces = false) {cms : List ac_Ct} (hcms : ∀ ct ∈ cms, ac_cmk l ct) (W : List ab_G) : ac_SPok l (ac_K0, W) (ac_SPm cms (ac_K0, W)) := by
  intro j args C H outs hs xs ν σ0 avs σ h ha hp Q hQ
  unfold ac_SPm at hs
  cases hf : cms.find? (fun ct => Nat.beq ct.1 j && ac_inL C args ct.2.1) with
  | none =>
    rw [hf] at hs
    exact ac_SPl_ok hl W j args C H outs hs xs ν σ0 avs σ h ha hp Q hQ
  | some ct =>
    rw [hf] at hs
    dsimp only at hs
    have m1 := List.mem_of_find?_eq_some hf
    have m2 := List.find?_some hf
    rw [Bool.and_eq_true] at m2
    have e1 := Nat.eq_of_beq_eq_true m2.1
    subst e1
    split at hs
    · rename_i e hfd
      cases hc : (ab_le 0 (ab_iv C.1 e).1 && ab_le (ab_iv C.1 e).2 30660000) with
      | false => rw [hc] at hs; cases hs
      | true =>
        rw [hc] at hs
        rw [Bool.and_eq_true, ab_le_ok, ab_le_ok] at hc
        dsimp only [cond_true] at hs
        cases hap : ac_app (ac_K0, W) ct args C H with
        | none => rw [hap] at hs; cases hs
        | some os =>
          rw [hap] at hs
          cases hs
          have g := ac_find_ok (i := 0) (k := 50) h hp.2.2.2.1 (ab_con h) (ab_con h) hfd
          obtain ⟨y, y1, y2⟩ := ab_Vi g
          have iy := ab_iv_ok h.1 y2
          refine hcms ct m1 avs σ y.toInt (ac_inL_ok h ha m2.2) hp.1 ⟨y, y1, rfl⟩ (by omega) (by omega) Q (fun x σ' m' k1 k2 k3 k4 k5 k6 k7 => ?_)
          have key : ∃ q ∈ os, ∃ ν', ab_up xs C ν q.1 ν' ∧ ab_xo q.1.1.length ν' q.2.1 x ∧ ac_hp (ac_K0, W) σ0 q.1.1.length ν' q.2.2 σ' :=
            ac_app_ok (Q := fun x σ' => ∃ q ∈ os, ∃ ν', ab_up xs C ν q.1 ν' ∧ ab_xo q.1.1.length ν' q.2.1 x ∧ ac_hp (ac_K0, W) σ0 q.1.1.length ν' q.2.2 σ') h ha hp hap k1 k2 k3 k4 (fun q hq ν' x σ' u hx hσ => ⟨q, hq, ν', u, hx, hσ⟩)
          obtain ⟨q, hq, ν', u, hx, hσ⟩ := key
          obtain ⟨ν1, u1, g1⟩ := ab_fr_ok u.1 (x := m') (lo := 0) (hi := 30720000) k6 (by omega)
          have ge := u1.I (u.I y2)
          have g2 := ab_asle_ok (f := (e.1, e.2 + 60000)) (y := y.toInt + 60000) u1.1 g1 ⟨ge.1, by show y.toInt + 60000 = ν1 e.1 + (e.2 + 60000); have := ge.2; omega⟩ k7
          have u2 : ab_up xs q.1 ν' (ab_asle (ab_fr q.1 0 30720000).1 (ab_fr q.1 0 30720000).2 (e.1, e.2 + 60000)) ν1 := ⟨g2.1, u1.2.1, by rw [g2.2]; exact u1.2.2⟩
          have gg : ab_I (ab_asle (ab_fr q.1 0 30720000).1 (ab_fr q.1 0 30720000).2 (e.1, e.2 + 60000)).1.length ν1 (ab_fr q.1 0 30720000).2 m' := ⟨Nat.lt_of_lt_of_eq g1.1 g2.2.symm, g1.2⟩
          refine hQ (ac_mm e q) (List.mem_map.mpr ⟨q, hq, rfl⟩) ν1 x σ' (u.tr u2) (ac_xo_ex hx u2.2.1 u2.2.2) ⟨hσ.1, hσ.2.1, hσ.2.2.1.ex u2.2.1 u2.2.2, fun o ho => ?_, fun g hg => (hσ.2.2.2.2 g hg).ex u2.2.1 u2.2.2⟩
          rcases List.mem_cons.mp ho with rfl | ho
          · exact ac_ov_ms u2.1.1.1 u2.1.2.1 gg k5
          · exact (hσ.2.2.2.1 o ho).ex u2.2.1 u2.2.2
    · cases hs
def ac_CM : ab_C := ([(0, 0), (0, 30660000)], [], [])
def ac_OM : List ac_O := [(12, (0, 0), (0, 50), .inl (1, 0))]
def ac_ckM (kp : ac_Kp) (ct : ac_Ct) (args : List ab_V) (e : ac_Q) : Bool := ac_ckE kp ct args e && (match ac_find e.1 e.2.2.2.1 12 (0, 0) (0, 50) with
  | some (.inl f) => ab_le 0 (ab_iv e.1.1 f).1 && ab_leq e.1 f (1, 60000)
  | _ => false)
def ac_chm (SP : ac_Kp → ac_SP) (ct : ac_Ct) : Bool := match ac_ret ac_SP0 (ac_go (ac_K0, ct.2.2.1) (SP (ac_K0, ct.2.2.1)) ac_LP0 ac_PL ac_nc 4000) ct.1 (ac_ini ct.2.1 ac_CM).2 (ac_ini ct.2.1 ac_CM).1 (none, ac_OM, []) with
  | some outs => outs.all (ac_ckM (ac_K0, ct.2.2.1) ct (ac_ini ct.2.1 ac_CM).2)
  | none => false
section ACY
variable {xs : ab_X} {l : Launch}
theorem ac_ckE_ok {kp : ac_Kp} {ct : ac_Ct} {args : List ab_V} {avs : List mV} {e : ac_Q} {ν' : ab_N} {σ σ' : mS} {x : mX} (hq : ac_ckE kp ct args e = true) (hc : ab_cx xs e.1 ν') (ha : ab_Vs e.1.1.length ν' args avs) (hx : ab_xo e.1.1.length ν' e.2.1 x) (hσ : ac_hp kp σ e.1.1.length ν' e.2.2 σ') : σ'.1 1 = σ.1 1 ∧ ac_res ct avs x σ' := by
  unfold ac_ckE at hq
  rw [Bool.and_eq_true] at hq
  obtain ⟨q1, q2⟩ := hq
  have hcn : σ'.1 1 = σ.1 1 := by
    have := hσ.2.2.1
    cases hH : e.2.2.1 with
    | none => rw [hH] at this; exact this
    | some _ => rw [hH] at q1; cases q1
  refine ⟨hcn, ?_⟩
  obtain ⟨eC, eo, eH⟩ := e
  dsimp only at q2 hx hσ hc ha
  rcases eo with v | b
  · dsimp only at q2
    rw [Bool.and_eq_true] at q2
    obtain ⟨q3, q4⟩ := q2
    cases x with
    | inr _ => cases v <;> exact hx.elim
    | inl r =>
      refine ⟨?_, fun p hp' => ac_ckP_ok hc ha hx hσ (List.all_eq_true.mp q4 p hp')⟩
      split at q3
      · rename_i ht
        refine ⟨none, ht, ?_⟩
        cases r with
        | none => trivial
        | some _ => exact hx.elim
      · rename_i T w ht
        refine ⟨some T, ht, ?_⟩
        cases r with
        | none => exact hx.elim
        | some r => exact ab_in_ok hc hx q3
      · cases q3
  · cases x with
    | inl r => cases r <;> exact hx.elim
    | inr x =>
      have e1 : b = x := hx
      subst e1
      obtain ⟨y, y1, y2⟩ := List.any_eq_true.mp q2
      have e2 := Nat.eq_of_beq_eq_true y2
      subst e2
      exact y1
theorem ac_ckM_ok {kp : ac_Kp} {ct : ac_Ct} {args : List ab_V} {avs : List mV} {e : ac_Q} {ν' : ab_N} {σ σ' : mS} {x : mX} {m : Int} (hq : ac_ckM kp ct args e = true) (hc : ab_cx xs e.1 ν') (h2 : 2 ≤ e.1.1.length) (ha : ab_Vs e.1.1.length ν' args avs) (hx : ab_xo e.1.1.length ν' e.2.1 x) (hσ : ac_hp kp σ e.1.1.length ν' e.2.2 σ') (hm : ν' 1 = m) : σ'.1 1 = σ.1 1 ∧ ac_res ct avs x σ' ∧ ∃ m', ac_ms0 σ' m' ∧ 0 ≤ m' ∧ m' ≤ m + 60000 := by
  unfold ac_ckM at hq
  rw [Bool.and_eq_true] at hq
  obtain ⟨r1, r2⟩ := ac_ckE_ok hq.1 hc ha hx hσ
  have q2 := hq.2
  refine ⟨r1, r2, ?_⟩
  split at q2
  · rename_i f hf
    rw [Bool.and_eq_true, ab_le_ok] at q2
    have g := ac_find_ok (i := 0) (k := 50) hc hσ.2.2.2.1 (ab_con hc) (ab_con hc) hf
    obtain ⟨y, y1, y2⟩ := ab_Vi g
    have iy := ab_iv_ok hc.1 y2
    have := ab_leq_ok hc y2 (f := (1, 60000)) (y := m + 60000) ⟨by show 1 < _; omega, by show m + 60000 = ν' 1 + 60000; omega⟩ q2.2
    exact ⟨y.toInt, ⟨y, y1, rfl⟩, by omega, this⟩
  · cases q2
def ac_νM (m : Int) : ab_N := fun j => if j = 1 then m else 0
theorem ac_cxM {m : Int} (h0 : 0 ≤ m) (h1 : m ≤ 30660000) : ab_cx none ac_CM (ac_νM m) := ac_cxB (B := [(0, 0), (0, 30660000)]) rfl (by decide) (fun j q hq => by
  match j, hq with
  | 0, hq => cases hq; exact ⟨Int.le_refl _, Int.le_refl _⟩
  | 1, hq => cases hq; exact ⟨h0, h1⟩
  | j + 2, hq => cases hq)
theorem ac_hpM {W : List ab_G} {σ : mS} {m : Int} {n : Nat} {ν : ab_N} (hK : ac_KK ac_K0 σ) (hm : ac_ms0 σ m) (h0 : ν 0 = 0) (h1 : ν 1 = m) (hn : 1 < n) : ac_hp (ac_K0, W) σ n ν (none, ac_OM, []) σ := ⟨hK, ac_fr.rf, rfl, (fun o ho => by
    have e := List.mem_singleton.mp ho
    subst e
    exact ac_ov_ms h0 (by omega) ⟨hn, by show m = ν 1 + 0; omega⟩ hm), fun g hg => by cases hg⟩
theorem ac_chm_ok (hl : l.stackTraces = false) {SP : ac_Kp → ac_SP} (hSP : ∀ W, ac_SPok l (ac_K0, W) (SP (ac_K0, W))) {ct : ac_Ct} (hc : ac_chm SP ct = true) : ac_cmk l ct := by
  intro avs σ m hT hK hm h0 h1 Q hQ
  unfold ac_chm at hc
  cases hr : ac_ret ac_SP0 (ac_go (ac_K0, ct.2.2.1) (SP (ac_K0, ct.2.2.1)) ac_LP0 ac_PL ac_nc 4000) ct.1 (ac_ini ct.2.1 ac_CM).2 (ac_ini ct.2.1 ac_CM).1 (none, ac_OM, []) with
  | none => rw [hr] at hc; cases hc
  | some outs =>
  rw [hr] at hc
  dsimp only at hc
  obtain ⟨ν1, u1, g1⟩ := ac_ini_ok (ac_cxM h0 h1) hT
  have hν1 : ν1 1 = m := (u1.2.1 1 (by decide)).trans rfl
  have hlen : 2 ≤ (ac_ini ct.2.1 ac_CM).1.1.length := u1.2.2
  have hp : ac_hp (ac_K0, ct.2.2.1) σ (ac_ini ct.2.1 ac_CM).1.1.length ν1 (none, ac_OM, []) σ := ac_hpM hK hm u1.1.1.1 hν1 hlen
  refine ac_ret_ok hl (ac_SP0_ok l _) (ac_go_ok hl (hSP ct.2.2.1) 4000) hr u1.1 g1 hp (fun e he ν' x σ' u hx hσ => ?_)
  have hq := List.all_eq_true.mp hc e he
  have hν' : ν' 1 = m := (u.2.1 1 hlen).trans hν1
  obtain ⟨r1, r2, m', r3, r4, r5⟩ := ac_ckM_ok hq u.1 (Nat.le_trans hlen u.2.2) (g1.ex u.2.1 u.2.2) hx hσ hν'
  exact hQ x σ' m' hσ.1 hσ.2.1 r1 r2 r3 r4 r5
end ACY
