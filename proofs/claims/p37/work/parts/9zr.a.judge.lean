/-! the judgement of the law's level: runs that keep what is held between the calls -/
def v_CC (σ0 : mS) (j : Nat) (avs : List mV) (σ : mS) (Q : mX → mS → Prop) : Prop := iv σ0 σ → ∃ x σ', ev_run sm_all j avs σ x σ' ∧ iv σ0 σ' ∧ Q x σ'
theorem v_CCm {σ0 : mS} : ac_CCm (v_CC σ0) := fun _ _ _ _ _ hQ h hI => by
  obtain ⟨x, σ', r, i, q⟩ := h hI
  exact ⟨x, σ', r, i, hQ x σ' q⟩
theorem v_cl {I : mS → Prop} {Gd : ev_G} (hst : g_st Gd I) {CC : Nat → List mV → mS → (mX → mS → Prop) → Prop} {CI : Nat → List mV → mS → (mX → mS → Prop) → Prop} (hCC : ac_CCm CC) (hCI : ∀ j avs σ Q, I σ → CI j avs σ Q → CC j avs σ (fun x σ' => I σ' ∧ Q x σ')) {Gd' : ev_G} (hG' : ∀ j z s, Gd j z s → Gd' j z s) {j : Nat} {z : mAl} {xs : ab_X} {Q Q' : mX → mS → Prop} {J : Nat → List (Option mV) → List mV → mS → Nat → Nat → Prop} (hQ : ∀ x σ', I σ' → Q x σ' → Q' x σ') (hJ : ev_cl Gd' CC j z xs Q' J) : ev_cl Gd CI j z xs Q (g_J I J) := by
  intro pc L st σ k n hG hst0 hI
  refine hJ pc L st σ k n (hG' _ _ _ hG) ?_
  obtain ⟨o, o1, o2⟩ := ev_nf_ok.mp hst0
  refine ev_nf_ok.mpr ⟨o, o1, ?_⟩
  have hS := hst xs j z (pc, L, st, σ, k, n) o hG o1 hI
  rcases o with s' | e | c
  · exact o2 hS
  · exact hQ _ _ hS o2
  · refine hCC _ _ _ _ _ (fun x σ' hx => ?_) (hCI _ _ _ _ hI o2)
    obtain ⟨hI', hx⟩ := hx
    cases x with
    | inl v => exact hx hI'
    | inr x =>
      have hx : ab_TT z Q (g_J I J) pc L σ' _ _ x := hx
      show ab_TT z Q' J pc L σ' _ _ x
      unfold ab_TT at hx ⊢
      cases hh : z.1.2.2.2.2.2 with
      | nil =>
        rw [hh] at hx
        exact ⟨hx.1, hx.2.1, hQ _ _ hI' hx.2.2⟩
      | cons w ws =>
        rw [hh] at hx
        obtain ⟨s', h1, h2⟩ := (ev_hd_J (s := (pc, L, st, σ, k, n)) (c := c)).mp hx
        refine (ev_hd_J (s := (pc, L, st, σ, k, n)) (c := c)).mpr ⟨s', h1, h2 ?_⟩
        have e : s'.2.2.2.1 = σ' := by
          unfold ev_hd at h1
          split at h1
          · cases h1
          · split at h1
            · cases h1
            · split at h1
              · split at h1
                · cases h1; rfl
                · cases h1
              · split at h1
                · cases h1; rfl
                · cases h1
              · cases h1
        rw [e]
        exact hI'
theorem CA_m : ac_CCm CA := fun _ _ _ _ _ hQ h => by
  obtain ⟨x, σ', r, q⟩ := h
  exact ⟨x, σ', r, hQ x σ' q⟩
theorem v_rule (σ0 : mS) : ev_rule lw_G (v_CC σ0) := by
  intro j z avs σ Q hz hn main hI
  exact ev_CC_rule (Gd := sm_all) j z avs σ (fun x σ' => iv σ0 σ' ∧ Q x σ') hz hn (fun J hJ => main (g_J (iv σ0) J) (v_cl (lw_st σ0) CA_m (fun j avs σ Q hI h => by
    obtain ⟨x, σ', r, i, q⟩ := h hI
    exact ⟨x, σ', r, i, q⟩) (fun _ _ _ _ => trivial) (fun x σ' a b => ⟨a, b⟩) hJ) hI)
theorem v_hG : ∀ (j : Nat) (z : mAl) (c s pc : Nat) (L : List (Option mV)) (st : List mV) (σ : mS) (k n k' n' : Nat), lw_G j (ac_zR z c s) (pc, L, st, σ, k, n) → lw_G j z (pc, L, st, σ, k', n') := fun _ _ _ _ _ _ _ _ _ _ _ _ h => h
theorem v_mu_ok {σ0 : mS} {W : List ab_G} (hW : ac_subW WM W = true) : ar_SPok (v_CC σ0) (ac_K0, W) lw_mu := by
  intro j args C H outs hs xs ν σ1 avs σ h ha hp Q hQ hI
  unfold lw_mu at hs
  cases hf : mu_tab.find? (fun q => Nat.beq q.1 j) with
  | none => rw [hf] at hs; cases hs
  | some q =>
  rw [hf] at hs
  dsimp only at hs
  have m1 := List.mem_of_find?_eq_some hf
  have ef := List.find?_some hf
  have ej : q.1 = j := Nat.eq_of_beq_eq_true ef
  subst ej
  cases hb : ac_inL C args (mu_Ts q.2.1) with
  | false => rw [hb] at hs; cases hs
  | true =>
  rw [hb] at hs
  dsimp only [cond_true] at hs
  cases hH : H.1 with
  | none => rw [hH] at hs; cases hs
  | some e =>
  rw [hH] at hs
  dsimp only at hs
  cases hc : ab_le (ab_iv C.1 e).2 511 with
  | false => rw [hc] at hs; cases hs
  | true =>
  rw [hc] at hs
  cases hs
  rw [ab_le_ok] at hc
  have c0 := hp.2.2.1
  rw [hH] at c0
  have c0 : ab_I C.1.length ν e (σ.1 1 : Int) := c0
  have ic := ab_iv_ok h.1 c0
  have h5 : σ.1 1 ≤ 511 := by omega
  obtain ⟨x, σ', r, ⟨k1, k2, k3, k4, k5⟩, tx⟩ := mu_all q m1 σ0 σ avs (ac_inL_ok h ha hb) hp.1 hI h5
  refine ⟨x, σ', r, k4, ?_⟩
  obtain ⟨ν1, u1, g1⟩ := ab_fr_ok h (x := (σ'.1 1 : Int)) (lo := 0) (hi := 512) (by omega) (by omega)
  have ge := u1.I c0
  have g2 := ab_asle_ok (f := (e.1, e.2 + 1)) (y := (σ.1 1 : Int) + 1) u1.1 g1 ⟨ge.1, by show (σ.1 1 : Int) + 1 = ν1 e.1 + (e.2 + 1); have := ge.2; omega⟩ (by omega)
  have u2 : ab_up xs C ν (lw_C C e) ν1 := ⟨g2.1, u1.2.1, by show C.1.length ≤ (ab_asle (ab_fr C 0 512).1 (ab_fr C 0 512).2 (e.1, e.2 + 1)).1.length; rw [g2.2]; exact u1.2.2⟩
  have gg : ab_I (lw_C C e).1.length ν1 (ab_fr C 0 512).2 (σ'.1 1 : Int) := ⟨Nat.lt_of_lt_of_eq g1.1 g2.2.symm, g1.2⟩
  have hp2 : ac_hp (ac_K0, W) σ1 (lw_C C e).1.length ν1 (lw_H C H) σ' := ⟨k1, ac_fr_tr hp.2.1 k2 hW, gg, fun o ho => (lw_oF_ok h hp.2.2.2.1 k2 o ho).ex u2.2.1 u2.2.2, fun g hg => by cases hg⟩
  cases x with
  | inr b => exact hQ (lw_C C e, .inr b, lw_H C H) (List.mem_cons_of_mem _ (List.mem_map.mpr ⟨b, k5, rfl⟩)) ν1 (.inr b) σ' u2 rfl hp2
  | inl v =>
    have hm := hQ (lw_nr q C e H) List.mem_cons_self
    unfold lw_nr at hm
    cases v with
    | none =>
      have tx : q.2.2.1 = none := tx
      rw [tx] at hm
      exact hm ν1 (.inl none) σ' u2 trivial hp2
    | some w =>
      obtain ⟨T, t1, t2⟩ := tx
      rw [t1] at hm
      obtain ⟨ν2, u3, g3⟩ := ab_of_ok u2.1 t2
      exact hm ν2 (.inl (some w)) σ' (u2.tr u3) g3 (hp2.ex u3.2.1 u3.2.2)
/-! contracts that know how many calls there are, as the analysis takes them -/
def vn_C (d : Nat) (C : ab_C) (e : ab_E) : ab_C := ab_asle (ab_fr C 0 512).1 (ab_fr C 0 512).2 (e.1, e.2 + (d : Int))
def vn_H (W : List ab_G) (C : ab_C) (H : ac_H) : ac_H := (some (ab_fr C 0 512).2, (ac_oF C W H.2.1).filter (fun o => !(Nat.beq o.1 1)), [])
def vn_nr (q : Nat × ac_Ct) (C : ab_C) (e : ab_E) (H : ac_H) (t : Option ab_T) : ac_Q := match t with
  | none => (vn_C q.1 C e, .inl none, vn_H q.2.2.2.1 C H)
  | some T => ((ab_of (vn_C q.1 C e) T).1, .inl (some (ab_of (vn_C q.1 C e) T).2), vn_H q.2.2.2.1 C H)
def vn_no (q : Nat × ac_Ct) (C : ab_C) (e : ab_E) (H : ac_H) : List ac_Q := match q.2.2.2.2.1 with
  | none => []
  | some t => [vn_nr q C e H t]
def vn_SP (kp : ac_Kp) (l : List (Nat × ac_Ct)) : ac_SP := fun j args C H => match l.find? (fun q => Nat.beq q.2.1 j && ac_inL C args q.2.2.1) with
  | none => none
  | some q => bif ac_subW q.2.2.2.1 kp.2 then (match H.1 with
    | some e => bif ab_le ((ab_iv C.1 e).2 + (q.1 : Int)) 512 then some (vn_no q C e H ++ q.2.2.2.2.2.1.map (fun b => (vn_C q.1 C e, .inr b, vn_H q.2.2.2.1 C H))) else none
    | none => none) else none
theorem vn_SP_ok {CC : Nat → List mV → mS → (mX → mS → Prop) → Prop} {kp : ac_Kp} {l : List (Nat × ac_Ct)} (hl : ∀ q ∈ l, v_cok CC kp.1 (some q.1) q.2) : ar_SPok CC kp (vn_SP kp l) := by
  intro j args C H outs hs xs ν σ1 avs σ h ha hp Q hQ
  unfold vn_SP at hs
  cases hf : l.find? (fun q => Nat.beq q.2.1 j && ac_inL C args q.2.2.1) with
  | none => rw [hf] at hs; cases hs
  | some q =>
  rw [hf] at hs
  dsimp only at hs
  have m1 := List.mem_of_find?_eq_some hf
  have ef := List.find?_some hf
  rw [Bool.and_eq_true] at ef
  have ej : q.2.1 = j := Nat.eq_of_beq_eq_true ef.1
  subst ej
  cases hw : ac_subW q.2.2.2.1 kp.2 with
  | false => rw [hw] at hs; cases hs
  | true =>
  rw [hw] at hs
  dsimp only [cond_true] at hs
  cases hH : H.1 with
  | none => rw [hH] at hs; cases hs
  | some e =>
  rw [hH] at hs
  dsimp only at hs
  cases hc : ab_le ((ab_iv C.1 e).2 + (q.1 : Int)) 512 with
  | false => rw [hc] at hs; cases hs
  | true =>
  rw [hc] at hs
  cases hs
  rw [ab_le_ok] at hc
  have c0 := hp.2.2.1
  rw [hH] at c0
  have c0 : ab_I C.1.length ν e (σ.1 1 : Int) := c0
  have ic := ab_iv_ok h.1 c0
  have h5 : σ.1 1 + q.1 ≤ 512 := by omega
  refine hl q m1 avs σ (ac_inL_ok h ha ef.2) hp.1 h5 Q (fun x σ' k1 k2 k3 hres => ?_)
  have k3 : σ'.1 1 ≤ σ.1 1 + q.1 := k3
  obtain ⟨ν1, u1, g1⟩ := ab_fr_ok h (x := (σ'.1 1 : Int)) (lo := 0) (hi := 512) (by omega) (by omega)
  have ge := u1.I c0
  have g2 := ab_asle_ok (f := (e.1, e.2 + (q.1 : Int))) (y := (σ.1 1 : Int) + q.1) u1.1 g1 ⟨ge.1, by show (σ.1 1 : Int) + q.1 = ν1 e.1 + (e.2 + q.1); have := ge.2; omega⟩ (by omega)
  have u2 : ab_up xs C ν (vn_C q.1 C e) ν1 := ⟨g2.1, u1.2.1, by show C.1.length ≤ (ab_asle (ab_fr C 0 512).1 (ab_fr C 0 512).2 (e.1, e.2 + (q.1 : Int))).1.length; rw [g2.2]; exact u1.2.2⟩
  have gg : ab_I (vn_C q.1 C e).1.length ν1 (ab_fr C 0 512).2 (σ'.1 1 : Int) := ⟨Nat.lt_of_lt_of_eq g1.1 g2.2.symm, g1.2⟩
  have hp2 : ac_hp kp σ1 (vn_C q.1 C e).1.length ν1 (vn_H q.2.2.2.1 C H) σ' := ⟨k1, ac_fr_tr hp.2.1 k2 hw, gg, fun o ho => (lw_oF_ok h hp.2.2.2.1 k2 o ho).ex u2.2.1 u2.2.2, fun g hg => by cases hg⟩
  cases x with
  | inr b => exact hQ (vn_C q.1 C e, .inr b, vn_H q.2.2.2.1 C H) (List.mem_append_right _ (List.mem_map.mpr ⟨b, hres, rfl⟩)) ν1 (.inr b) σ' u2 rfl hp2
  | inl v =>
    obtain ⟨⟨t, t1, t2⟩, -⟩ := hres
    have hmem : vn_nr q C e H t ∈ vn_no q C e H := by
      unfold vn_no
      rw [t1]
      exact List.mem_cons_self
    have hm := hQ _ (List.mem_append_left _ hmem)
    unfold vn_nr at hm
    cases t with
    | none =>
      cases v with
      | none => exact hm ν1 (.inl none) σ' u2 trivial hp2
      | some _ => exact t2.elim
    | some T =>
      cases v with
      | none => exact t2.elim
      | some w =>
        obtain ⟨ν2, u3, g3⟩ := ab_of_ok u2.1 (show ab_Tr T w from t2)
        exact hm ν2 (.inl (some w)) σ' (u2.tr u3) g3 (hp2.ex u3.2.1 u3.2.2)
def v_SP (nl : List (Nat × ac_Ct)) (cl : List ac_Ct) (kp : ac_Kp) : ac_SP := fun j args C H => match (bif ac_subW WM kp.2 then lw_mu j args C H else none) with
  | some o => some o
  | none => (match vn_SP kp nl j args C H with
    | some o => some o
    | none => ac_SPt kp cl j args C H)
theorem v_SP_ok {σ0 : mS} {nl : List (Nat × ac_Ct)} {cl : List ac_Ct} (hn : ∀ q ∈ nl, v_cok (v_CC σ0) ac_K0 (some q.1) q.2) (hc : ∀ ct ∈ cl, ar_cok (v_CC σ0) ac_K0 ct) (W : List ab_G) : ar_SPok (v_CC σ0) (ac_K0, W) (v_SP nl cl (ac_K0, W)) := by
  intro j args C H outs hs
  unfold v_SP at hs
  cases hb : ac_subW WM W with
  | true =>
    have hb' : ac_subW WM (ac_K0, W).2 = true := hb
    rw [hb'] at hs
    dsimp only [cond_true] at hs
    cases hm : lw_mu j args C H with
    | some o =>
      rw [hm] at hs
      cases hs
      exact v_mu_ok hb j args C H outs hm
    | none =>
      rw [hm] at hs
      dsimp only at hs
      cases hv : vn_SP (ac_K0, W) nl j args C H with
      | some o =>
        rw [hv] at hs
        cases hs
        exact vn_SP_ok (kp := (ac_K0, W)) hn j args C H outs hv
      | none =>
        rw [hv] at hs
        exact ar_SPt_ok (kp := (ac_K0, W)) hc j args C H outs hs
  | false =>
    have hb' : ac_subW WM (ac_K0, W).2 = false := hb
    rw [hb'] at hs
    dsimp only [cond_false] at hs
    cases hv : vn_SP (ac_K0, W) nl j args C H with
    | some o =>
      rw [hv] at hs
      cases hs
      exact vn_SP_ok (kp := (ac_K0, W)) hn j args C H outs hv
    | none =>
      rw [hv] at hs
      exact ar_SPt_ok (kp := (ac_K0, W)) hc j args C H outs hs
