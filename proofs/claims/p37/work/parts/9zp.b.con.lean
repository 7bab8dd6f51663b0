/-! contracts of the law's level -/
def v_nc (_ _ : Nat) : Bool := false
theorem v_Ti {lo hi : Int} {x : mV} (h : ab_Tr (0, 0, lo, hi, 0, 0) x) : ∃ y : Int32, x = .inl y ∧ lo ≤ y.toInt ∧ y.toInt ≤ hi := by
  rcases x with y | y | _ | q
  · exact ⟨y, rfl, h.2⟩
  · cases h.1
  · cases h.1
  · cases h.1
def v_ckE (co : Option Nat) (ct : ac_Ct) (e : ac_Q) : Bool := (match co, e.2.2.1 with
  | none, none => true
  | some d, some c => v_le e.1 c (1, (d : Int))
  | _, _ => false) && (ct.2.2.2.2.2.1.isEmpty && match e.2.1 with
  | .inl v => (match ct.2.2.2.1, v with
    | some none, none => true
    | some (some T), some w => ab_in e.1 w T
    | _, _ => false)
  | .inr x => ct.2.2.2.2.1.any (Nat.beq x))
def v_post (co : Option Nat) (σ σ' : mS) : Prop := match co with
  | none => σ'.1 1 = σ.1 1
  | some d => σ'.1 1 ≤ σ.1 1 + d
def v_cok (CC : Nat → List mV → mS → (mX → mS → Prop) → Prop) (K : ac_Kd) (co : Option Nat) (ct : ac_Ct) : Prop := ∀ (avs : List mV) (σ : mS), ac_TrL ct.2.1 avs → ac_KK K σ → v_pre co σ → ∀ Q : mX → mS → Prop, (∀ x σ', ac_KK K σ' → ac_fr ct.2.2.1 σ σ' → v_post co σ σ' → ac_res ct avs x σ' → Q x σ') → CC ct.1 avs σ Q
section VC
variable {xs : ab_X} {C : ab_C} {ν ν' : ab_N} {kp : ac_Kp} {σ0 σ σ' : mS} {co : Option Nat} {ct : ac_Ct}
theorem v_ckE_ok {K : ac_Kd} {e : ac_Q} {c : Nat} {x : mX} {avs : List mV} (hq : v_ckE co ct e = true) (h : ab_cx xs e.1 ν') (hx : ab_xo e.1.1.length ν' e.2.1 x) (hσ : ac_hp (K, ct.2.2.1) σ0 e.1.1.length ν' e.2.2 σ') (hc : ∀ d, co = some d → 1 < e.1.1.length ∧ ν' 1 = (c : Int)) (hc0 : ∀ d, co = some d → c ≤ σ0.1 1) : ac_KK K σ' ∧ ac_fr ct.2.2.1 σ0 σ' ∧ v_post co σ0 σ' ∧ ac_res ct avs x σ' := by
  unfold v_ckE at hq
  rw [Bool.and_eq_true, Bool.and_eq_true] at hq
  obtain ⟨q1, q0, q2⟩ := hq
  refine ⟨hσ.1, hσ.2.1, ?_, ?_⟩
  · have := hσ.2.2.1
    unfold v_post
    cases co with
    | none =>
      cases hH : e.2.2.1 with
      | none => rw [hH] at this; exact this
      | some _ => rw [hH] at q1; cases q1
    | some d =>
      cases hH : e.2.2.1 with
      | none => rw [hH] at q1; cases q1
      | some b =>
        rw [hH] at this q1
        obtain ⟨c2, c3⟩ := hc d rfl
        have q1 : v_le e.1 b (1, (d : Int)) = true := q1
        have this : ab_I e.1.1.length ν' b (σ'.1 1 : Int) := this
        have g := v_le_ok h this (f := (1, (d : Int))) (y := ν' 1 + (d : Int)) ⟨c2, rfl⟩ q1
        have := hc0 d rfl
        show σ'.1 1 ≤ σ0.1 1 + d
        omega
  · have e0 : ct.2.2.2.2.2.1 = [] := List.isEmpty_iff.mp q0
    obtain ⟨eC, eo, eH⟩ := e
    dsimp only at q2 hx
    rcases eo with v | b
    · dsimp only at q2
      cases x with
      | inr _ => cases v <;> exact hx.elim
      | inl r =>
        refine ⟨?_, fun p hp' => by rw [e0] at hp'; cases hp'⟩
        split at q2
        · rename_i ht
          refine ⟨none, ht, ?_⟩
          cases r with
          | none => trivial
          | some _ => exact hx.elim
        · rename_i T w ht
          refine ⟨some T, ht, ?_⟩
          cases r with
          | none => exact hx.elim
          | some r => exact ab_in_ok h hx q2
        · cases q2
    · cases x with
      | inl r => cases r <;> exact hx.elim
      | inr x =>
        have e1 : b = x := hx
        subst e1
        obtain ⟨y, y1, y2⟩ := List.any_eq_true.mp q2
        have e2 := Nat.eq_of_beq_eq_true y2
        subst e2
        exact y1
end VC
/-! contracts without a loop of calls that may throw; a cell's bounds may be told ahead -/
def v_cell (c : Option (Nat × Nat × Nat × Int × Int)) (C : ab_C) : ab_C × List ac_O := match c with
  | none => (C, [])
  | some q => ((ab_fr C q.2.2.2.1 q.2.2.2.2).1, [(q.1, (0, (q.2.1 : Int)), (0, (q.2.2.1 : Int)), .inl (ab_fr C q.2.2.2.1 q.2.2.2.2).2)])
def v_is (c : Option (Nat × Nat × Nat × Int × Int)) (σ : mS) : Prop := match c with
  | none => True
  | some q => ab_Tr (ac_TI q.2.2.2.1 q.2.2.2.2) (m_get σ q.1 q.2.1 q.2.2.1)
def v_ck1 (gd : ar_D) (K : ac_Kd) (SP : ac_Kp → ac_SP) (LP : Nat → Nat → Option ac_An) (PL : Nat → Nat → List (Nat × Option Int)) (co : Option Nat) (ct : ac_Ct) (c : Option (Nat × Nat × Nat × Int × Int)) : Bool := match ar_ret ac_SP0 (ar_go gd (K, ct.2.2.1) (SP (K, ct.2.2.1)) LP PL v_nc 4000) ct.1 (ac_ini ct.2.1 (v_C0 co)).2 (v_cell c (ac_ini ct.2.1 (v_C0 co)).1).1 (v_c0 co, (v_cell c (ac_ini ct.2.1 (v_C0 co)).1).2, []) with
  | some outs => outs.all (v_ckE co ct)
  | none => false
section VD
variable {CC : Nat → List mV → mS → (mX → mS → Prop) → Prop} {Gd : ev_G} {gd : ar_D} {K : ac_Kd} {SP : ac_Kp → ac_SP} {LP : Nat → Nat → Option ac_An} {PL : Nat → Nat → List (Nat × Option Int)} {co : Option Nat} {ct : ac_Ct}
theorem v_begin {avs : List mV} {σ : mS} (hT : ac_TrL ct.2.1 avs) (hp : v_pre co σ) : ∃ ν, ab_cx none (ac_ini ct.2.1 (v_C0 co)).1 ν ∧ ab_Vs (ac_ini ct.2.1 (v_C0 co)).1.1.length ν (ac_ini ct.2.1 (v_C0 co)).2 avs ∧ ac_cn (ac_ini ct.2.1 (v_C0 co)).1.1.length ν (v_c0 co) σ σ ∧ ∀ d, co = some d → 1 < (ac_ini ct.2.1 (v_C0 co)).1.1.length ∧ ν 1 = (σ.1 1 : Int) := by
  obtain ⟨ν0, ⟨h0, g0⟩ | g0⟩ := v_cx0 (co := co) (σ := σ)
  rotate_left
  · exact absurd hp g0
  obtain ⟨n0, n1⟩ := g0 hp
  obtain ⟨ν, u, g⟩ := ac_ini_ok (Ts := ct.2.1) h0 hT
  refine ⟨ν, u.1, g, ?_, fun d hd => ?_⟩
  · cases co with
    | none => rfl
    | some d => exact u.I n0
  · obtain ⟨b1, b2⟩ := n1 d hd
    exact ⟨Nat.lt_of_lt_of_le b1 u.2.2, (u.2.1 1 b1).trans b2⟩
theorem v_ck1_ok (hl : ev_rule Gd CC) (hgd : ∀ kp, ar_gok Gd kp gd) (hSP : ∀ W, ar_SPok CC (K, W) (SP (K, W))) {c : Option (Nat × Nat × Nat × Int × Int)} (hc : v_ck1 gd K SP LP PL co ct c = true) {avs : List mV} {σ : mS} (hT : ac_TrL ct.2.1 avs) (hK : ac_KK K σ) (hp : v_pre co σ) (hcell : v_is c σ) {Q : mX → mS → Prop} (hQ : ∀ x σ', ac_KK K σ' → ac_fr ct.2.2.1 σ σ' → v_post co σ σ' → ac_res ct avs x σ' → Q x σ') : CC ct.1 avs σ Q := by
  unfold v_ck1 at hc
  obtain ⟨ν, u, g, n0, n1⟩ := v_begin (ct := ct) hT hp
  have key : ∃ ν1, ab_up none (ac_ini ct.2.1 (v_C0 co)).1 ν (v_cell c (ac_ini ct.2.1 (v_C0 co)).1).1 ν1 ∧ ∀ o ∈ (v_cell c (ac_ini ct.2.1 (v_C0 co)).1).2, ac_ov (v_cell c (ac_ini ct.2.1 (v_C0 co)).1).1.1.length ν1 σ o := by
    cases c with
    | none => exact ⟨ν, ab_up.rf u, fun o ho => by cases ho⟩
    | some q =>
      obtain ⟨y, y1, y2, y3⟩ := ac_TI_ok (show ab_Tr (ac_TI q.2.2.2.1 q.2.2.2.2) (m_get σ q.1 q.2.1 q.2.2.1) from hcell)
      obtain ⟨ν1, u1, g1⟩ := ab_fr_ok u y2 y3
      refine ⟨ν1, u1, fun o ho => ?_⟩
      have eo := List.mem_singleton.mp ho
      subst eo
      have p0 := u1.1.2.1
      refine ⟨⟨p0, g1.1⟩, p0, fun i k hi hk => ?_⟩
      have hi : (i : Int) = ν1 0 + (q.2.1 : Int) := hi
      have hk : (k : Int) = ν1 0 + (q.2.2.1 : Int) := hk
      rw [u1.1.1.1] at hi hk
      have e1 : i = q.2.1 := by omega
      have e2 : k = q.2.2.1 := by omega
      subst e1; subst e2
      show ab_Vr _ _ (.inl _) (m_get σ q.1 q.2.1 q.2.2.1)
      rw [y1]
      exact g1
  obtain ⟨ν1, u1, hO⟩ := key
  cases hr : ar_ret ac_SP0 (ar_go gd (K, ct.2.2.1) (SP (K, ct.2.2.1)) LP PL v_nc 4000) ct.1 (ac_ini ct.2.1 (v_C0 co)).2 (v_cell c (ac_ini ct.2.1 (v_C0 co)).1).1 (v_c0 co, (v_cell c (ac_ini ct.2.1 (v_C0 co)).1).2, []) with
  | none => rw [hr] at hc; cases hc
  | some outs =>
  rw [hr] at hc
  dsimp only at hc
  have n0' : ac_cn (v_cell c (ac_ini ct.2.1 (v_C0 co)).1).1.1.length ν1 (v_c0 co) σ σ := by
    cases co with
    | none => rfl
    | some d => exact u1.I n0
  have hp' : ac_hp (K, ct.2.2.1) σ (v_cell c (ac_ini ct.2.1 (v_C0 co)).1).1.1.length ν1 (v_c0 co, (v_cell c (ac_ini ct.2.1 (v_C0 co)).1).2, []) σ := ⟨hK, ac_fr.rf, n0', hO, fun g hg => by cases hg⟩
  refine ar_ret_ok hl (ar_SP0_ok CC _) (ar_go_ok hl (hgd _) (hSP ct.2.2.1) 4000) hr u1.1 (g.ex u1.2.1 u1.2.2) hp' (fun e he ν' x σ' u2 hx hσ => ?_)
  obtain ⟨k1, k2, k3, k4⟩ := v_ckE_ok (avs := avs) (c := σ.1 1) (List.all_eq_true.mp hc e he) u2.1 hx hσ (fun d hd => by
    obtain ⟨b1, b2⟩ := n1 d hd
    have b3 := Nat.lt_of_lt_of_le b1 u1.2.2
    exact ⟨Nat.lt_of_lt_of_le b3 u2.2.2, ((u2.2.1 1 b3).trans (u1.2.1 1 b1)).trans b2⟩) (fun d hd => Nat.le_refl _)
  exact hQ x σ' k1 k2 k3 k4
theorem v_cok_1 (hl : ev_rule Gd CC) (hgd : ∀ kp, ar_gok Gd kp gd) (hSP : ∀ W, ar_SPok CC (K, W) (SP (K, W))) (hc : v_ck1 gd K SP LP PL co ct none = true) : v_cok CC K co ct := fun _ _ hT hK hp _ hQ => v_ck1_ok hl hgd hSP hc hT hK hp trivial hQ
theorem v_cok_c (hl : ev_rule Gd CC) (hgd : ∀ kp, ar_gok Gd kp gd) (hSP : ∀ W, ar_SPok CC (K, W) (SP (K, W))) (cs : List (Nat × Nat × Nat × Int × Int)) (hcs : ∀ σ, ac_KK K σ → ∃ c ∈ cs, v_is (some c) σ) (hc : cs.all (fun c => v_ck1 gd K SP LP PL co ct (some c)) = true) : v_cok CC K co ct := fun _ σ hT hK hp _ hQ => by
  obtain ⟨c, c1, c2⟩ := hcs σ hK
  exact v_ck1_ok hl hgd hSP (List.all_eq_true.mp hc c c1) hT hK hp c2 hQ
theorem v_cok_ar (h : v_cok CC K none ct) : ar_cok CC K ct := fun avs σ hT hK _ Q hQ => h avs σ hT hK trivial Q (fun x σ' a b c d => hQ x σ' a b c d)
/-! contracts with a loop -/
def v_room (k n : Nat) (S : ac_S) : Bool := Nat.ble S.2.2.2.2.2.1 k && Nat.ble S.2.2.2.2.2.2 n
def v_ce (co : Option Nat) (T : v_Tm) : ab_E := match (v_ini co T).2 with
  | .inl e :: _ => e
  | _ => (0, 0)
def v_up (co : Option Nat) (T : v_Tm) (dl : Int) (S : ac_S) : Bool := match T.2 with
  | b :: _ => (match ab_ld S.2.2.1 b.1 with
    | some (.inl e) => ab_eE e ((v_ce co T).1, (v_ce co T).2 + dl)
    | _ => false)
  | [] => false
def v_lcut (j0 pc : Nat) : Nat → Nat → Bool := fun j p => Nat.beq j j0 && Nat.beq p pc
/-- room ahead of the loop, of a turn, of the rest -/
abbrev v_Rm : Type := (Nat × Nat) × (Nat × Nat) × Nat × Nat
def v_lA (co : Option Nat) (ct : ac_Ct) (T : v_Tm) (nL : Nat) (R : v_Rm) (o : ac_Z) : Bool := match o with
  | .inl e => v_ckE co ct e
  | .inr S => v_fit co 0 T nL S && v_room R.1.1 R.1.2 S
def v_lB (co : Option Nat) (ct : ac_Ct) (T : v_Tm) (nL : Nat) (R : v_Rm) (o : ac_Z) : Bool := match o with
  | .inl e => v_ckE co ct e
  | .inr S => v_fit co 0 T nL S && (v_up co T 1 S && v_room R.2.1.1 R.2.1.2 S)
def v_ckL (gd : ar_D) (K : ac_Kd) (SP : ac_Kp → ac_SP) (LP : Nat → Nat → Option ac_An) (PL : Nat → Nat → List (Nat × Option Int)) (co : Option Nat) (ct : ac_Ct) (z : mAl) (T : v_Tm) (R : v_Rm) : Bool := (match ar_go gd (K, ct.2.2.1) (SP (K, ct.2.2.1)) LP PL (v_lcut ct.1 T.1) 4000 false ct.1 z [] ((ac_ini ct.2.1 (v_C0 co)).1, 0, ab_L0 z.1.2.2.1 (ac_ini ct.2.1 (v_C0 co)).2, [], (v_c0 co, [], []), 0, 0) with
  | some outs => outs.all (v_lA co ct T z.1.2.2.1 R)
  | none => false) && (match v_seg gd (K, ct.2.2.1) (SP (K, ct.2.2.1)) LP PL (v_lcut ct.1 T.1) ct.1 (ac_zR z R.2.2.1 R.2.2.2) co T [] with
  | some outs => outs.all (v_lB co ct T z.1.2.2.1 R)
  | none => false)
theorem v_clS {j : Nat} {z : mAl} {Q : mX → mS → Prop} {J : Nat → List (Option mV) → List mV → mS → Nat → Nat → Prop} {c s kb nb : Nat} (hCC : ac_CCm CC) (hG : ∀ pc L st σ k n, Gd j (ac_zR z c s) (pc, L, st, σ, k, n) → Gd j z (pc, L, st, σ, kb + k, nb + n)) (hh : z.1.2.2.2.2.2 = []) (hJ : ev_cl Gd CC j z none Q J) (hc : kb + c ≤ z.1.2.2.2.2.1.cells) (hs : nb + s ≤ z.1.2.2.2.2.1.slots) : ev_cl Gd CC j (ac_zR z c s) none Q (fun pc L st σ k n => J pc L st σ (kb + k) (nb + n)) := by
  intro pc L st σ k n hg h
  refine hJ pc L st σ (kb + k) (nb + n) (hG _ _ _ _ _ _ hg) ?_
  refine ac_stepS (R := z.1.2.2.2.2.1) (R' := (ac_zR z c s).1.2.2.2.2.1) (kb := kb) (nb := nb) hCC rfl rfl hc hs (fun pc L σ k n x hT => ?_) (fun pc L st σ k n h => h) h
  have hT : m_T Q c s pc L σ k n x := hT
  unfold ab_TT
  rw [hh]
  exact ⟨by have := hT.1; omega, by have := hT.2.1; omega, hT.2.2⟩
theorem v_cok_L (hl : ev_rule Gd CC) (hCC : ac_CCm CC) (hgd : ∀ kp, ar_gok Gd kp gd) (hG : ∀ j z c s pc L st σ k n k' n', Gd j (ac_zR z c s) (pc, L, st, σ, k, n) → Gd j z (pc, L, st, σ, k', n')) (hSP : ∀ W, ar_SPok CC (K, W) (SP (K, W))) {z : mAl} {T : v_Tm} {R : v_Rm} (hz : m_alF[ct.1]? = some z) (hh : z.1.2.2.2.2.2 = []) {cl : Nat} {lo hi : Int} {ls : List (Nat × ab_T)} (hT0 : T.2 = (cl, (0, 0, lo, hi, 0, 0)) :: ls) (hlen : Nat.ble (ab_args (ac_ini ct.2.1 (v_C0 co)).2).length z.1.2.2.1 = true) (hc : v_ckL gd K SP LP PL co ct z T R = true)
    (hR1 : R.1.1 + (hi - lo).toNat * R.2.1.1 + R.2.2.1 ≤ z.1.2.2.2.2.1.cells) (hR2 : R.1.2 + (hi - lo).toNat * R.2.1.2 + R.2.2.2 ≤ z.1.2.2.2.2.1.slots) : v_cok CC K co ct := by
  intro avs σ0 hT hK hp Q hQ
  unfold v_ckL at hc
  rw [Bool.and_eq_true] at hc
  obtain ⟨hA, hB⟩ := hc
  cases hg : ar_go gd (K, ct.2.2.1) (SP (K, ct.2.2.1)) LP PL (v_lcut ct.1 T.1) 4000 false ct.1 z [] ((ac_ini ct.2.1 (v_C0 co)).1, 0, ab_L0 z.1.2.2.1 (ac_ini ct.2.1 (v_C0 co)).2, [], (v_c0 co, [], []), 0, 0) with
  | none => rw [hg] at hA; cases hA
  | some oA =>
  rw [hg] at hA
  dsimp only at hA
  cases hs : v_seg gd (K, ct.2.2.1) (SP (K, ct.2.2.1)) LP PL (v_lcut ct.1 T.1) ct.1 (ac_zR z R.2.2.1 R.2.2.2) co T [] with
  | none => rw [hs] at hB; cases hB
  | some oB =>
  rw [hs] at hB
  dsimp only at hB
  obtain ⟨ν, u, g, n0, n1⟩ := v_begin (ct := ct) hT hp
  have hn : (m_args avs).length ≤ z.1.2.2.1 := by
    rw [(ab_args_ok g).1]
    exact Nat.le_of_ble_eq_true hlen
  refine hl ct.1 z avs σ0 Q hz hn (fun J hJ => ?_)
  have claim : ∀ (m : Nat) (Lc : List (Option mV)) (σ : mS) (b n : Nat) (y : Int32), v_In (K, ct.2.2.1) σ0 z.1.2.2.1 T Lc σ → v_cn co σ0 (σ0.1 1) 0 σ → m_ld Lc cl = some (.inl y) → (hi - y.toInt).toNat = m → b ≤ R.1.1 + (y.toInt - lo).toNat * R.2.1.1 → n ≤ R.1.2 + (y.toInt - lo).toNat * R.2.1.2 → J T.1 Lc [] σ b n := by
    intro m
    induction m with
    | zero =>
      intro Lc σ b n y hin hcn hy hm hb hnn
      obtain ⟨y', y1, y2⟩ := hin.2.1 _ (by rw [hT0]; exact List.mem_cons_self)
      have hy' : m_ld Lc cl = some y' := y1
      rw [hy] at hy'
      cases hy'
      obtain ⟨-, y3, y4⟩ := y2
      have y3 : lo ≤ y.toInt := y3
      have y4 : y.toInt ≤ hi := y4
      have ey : y.toInt = hi := by omega
      rw [ey] at hb hnn
      have hJ' := v_clS (c := R.2.2.1) (s := R.2.2.2) (kb := b) (nb := n) hCC (fun pc L st σ k n' h => hG _ _ _ _ _ _ _ _ _ _ _ _ h) hh hJ (by omega) (by omega)
      refine v_seg_ok hl (hgd _) (hSP _) hs hJ' hin ?_ (fun _ _ _ _ o ho => by cases ho) (fun ν1 av1 c1 v1 e1 k1 o ho => ?_)
      · unfold v_cn at hcn
        unfold v_pre at hp
        unfold v_hc
        cases co with
        | none => exact hcn
        | some d => dsimp only at hcn hp ⊢; omega
      · have hb' := List.all_eq_true.mp hB o ho
        cases o with
        | inl e =>
          intro ν' x σ' u2 hx hσ
          obtain ⟨k2, k3, k4, k5⟩ := v_ckE_ok (avs := avs) (c := σ.1 1) hb' u2.1 hx hσ (fun d hd => by
            obtain ⟨b1, b2⟩ := k1 d hd
            exact ⟨Nat.lt_of_lt_of_le b1 u2.2.2, (u2.2.1 1 b1).trans b2⟩) (fun d hd => by unfold v_cn at hcn; rw [hd] at hcn; exact hcn)
          exact hQ x σ' k2 k3 k4 k5
        | inr S =>
          intro ν' Lc' sc' σ' u2 hL2 hs2 hp2
          have hb' : (v_fit co 0 T z.1.2.2.1 S && (v_up co T 1 S && v_room R.2.1.1 R.2.1.2 S)) = true := hb'
          rw [Bool.and_eq_true, Bool.and_eq_true] at hb'
          obtain ⟨q1, q2, -⟩ := hb'
          exfalso
          obtain ⟨-, -, f3, -⟩ := v_fit_ok (c := σ.1 1) q1 u2.1 hL2 hs2 hp2 (fun d hd => by
            obtain ⟨b1, b2⟩ := k1 d hd
            exact ⟨Nat.lt_of_lt_of_le b1 u2.2.2, (u2.2.1 1 b1).trans b2⟩)
          obtain ⟨w, w1, wT⟩ := f3.2.1 _ (by rw [hT0]; exact List.mem_cons_self)
          obtain ⟨yw, rfl, w3, w4⟩ := v_Ti wT
          have w1 : m_ld Lc' cl = some (.inl yw) := w1
          unfold v_up at q2
          rw [hT0] at q2
          dsimp only at q2
          split at q2
          · rename_i e he
            have e2 := ab_eE_ok q2
            have he2 : S.2.2.1[cl]? = some (some (.inl e)) := by
              unfold ab_ld at he
              split at he
              · rename_i w hw; cases he; exact hw
              · cases he
            obtain ⟨x, x1, x2⟩ := hL2.2 cl _ he2
            rw [w1] at x1
            cases x1
            have i2 : ab_I S.1.1.length ν' e yw.toInt := x2
            have v2 := v1
            have hce : ∃ vs', (v_ini co T).2 = .inl (v_ce co T) :: vs' := by
              unfold v_ce v_ini
              rw [hT0]
              exact ⟨_, rfl⟩
            obtain ⟨vs', hvs⟩ := hce
            rw [hvs] at v2
            obtain ⟨y2, s', es, i1, -⟩ := ab_Vs_i v2
            rw [es, hT0, List.map_cons, List.map_cons] at e1
            injection e1 with e1 _
            have e1 : m_ld Lc cl = some (.inl y2) := e1
            rw [hy] at e1
            cases e1
            have i3 := (u2.I i1).2
            have i4 := i2.2
            rw [e2] at i4
            have i4 : yw.toInt = ν' (v_ce co T).1 + ((v_ce co T).2 + 1) := i4
            have w4 : yw.toInt ≤ hi := w4
            omega
          · cases q2
    | succ m ih =>
      intro Lc σ b n y hin hcn hy hm hb hnn
      obtain ⟨y', y1, y2⟩ := hin.2.1 _ (by rw [hT0]; exact List.mem_cons_self)
      have hy' : m_ld Lc cl = some y' := y1
      rw [hy] at hy'
      cases hy'
      obtain ⟨-, y3, y4⟩ := y2
      have y3 : lo ≤ y.toInt := y3
      have y4 : y.toInt ≤ hi := y4
      have hle1 : (y.toInt - lo).toNat * R.2.1.1 + R.2.1.1 ≤ (hi - lo).toNat * R.2.1.1 := by
        have : (y.toInt - lo).toNat + 1 ≤ (hi - lo).toNat := by omega
        have := Nat.mul_le_mul_right R.2.1.1 this
        rw [Nat.succ_mul] at this
        exact this
      have hle2 : (y.toInt - lo).toNat * R.2.1.2 + R.2.1.2 ≤ (hi - lo).toNat * R.2.1.2 := by
        have : (y.toInt - lo).toNat + 1 ≤ (hi - lo).toNat := by omega
        have := Nat.mul_le_mul_right R.2.1.2 this
        rw [Nat.succ_mul] at this
        exact this
      have hJ' := v_clS (c := R.2.2.1) (s := R.2.2.2) (kb := b) (nb := n) hCC (fun pc L st σ k n' h => hG _ _ _ _ _ _ _ _ _ _ _ _ h) hh hJ (by omega) (by omega)
      refine v_seg_ok hl (hgd _) (hSP _) hs hJ' hin ?_ (fun _ _ _ _ o ho => by cases ho) (fun ν1 av1 c1 v1 e1 k1 o ho => ?_)
      · unfold v_cn at hcn
        unfold v_pre at hp
        unfold v_hc
        cases co with
        | none => exact hcn
        | some d => dsimp only at hcn hp ⊢; omega
      · have hb' := List.all_eq_true.mp hB o ho
        cases o with
        | inl e =>
          intro ν' x σ' u2 hx hσ
          obtain ⟨k2, k3, k4, k5⟩ := v_ckE_ok (avs := avs) (c := σ.1 1) hb' u2.1 hx hσ (fun d hd => by
            obtain ⟨b1, b2⟩ := k1 d hd
            exact ⟨Nat.lt_of_lt_of_le b1 u2.2.2, (u2.2.1 1 b1).trans b2⟩) (fun d hd => by unfold v_cn at hcn; rw [hd] at hcn; exact hcn)
          exact hQ x σ' k2 k3 k4 k5
        | inr S =>
          intro ν' Lc' sc' σ' u2 hL2 hs2 hp2
          have hb' : (v_fit co 0 T z.1.2.2.1 S && (v_up co T 1 S && v_room R.2.1.1 R.2.1.2 S)) = true := hb'
          rw [Bool.and_eq_true, Bool.and_eq_true] at hb'
          obtain ⟨q1, q2, q3⟩ := hb'
          obtain ⟨f1, f2, f3, f4⟩ := v_fit_ok (c := σ.1 1) q1 u2.1 hL2 hs2 hp2 (fun d hd => by
            obtain ⟨b1, b2⟩ := k1 d hd
            exact ⟨Nat.lt_of_lt_of_le b1 u2.2.2, (u2.2.1 1 b1).trans b2⟩)
          obtain ⟨w, w1, wT⟩ := f3.2.1 _ (by rw [hT0]; exact List.mem_cons_self)
          obtain ⟨yw, rfl, w3, w4⟩ := v_Ti wT
          have w1 : m_ld Lc' cl = some (.inl yw) := w1
          unfold v_up at q2
          rw [hT0] at q2
          dsimp only at q2
          split at q2
          · rename_i e he
            have e2 := ab_eE_ok q2
            have he2 : S.2.2.1[cl]? = some (some (.inl e)) := by
              unfold ab_ld at he
              split at he
              · rename_i w hw; cases he; exact hw
              · cases he
            obtain ⟨x, x1, x2⟩ := hL2.2 cl _ he2
            rw [w1] at x1
            cases x1
            have i2 : ab_I S.1.1.length ν' e yw.toInt := x2
            have v2 := v1
            have hce : ∃ vs', (v_ini co T).2 = .inl (v_ce co T) :: vs' := by
              unfold v_ce v_ini
              rw [hT0]
              exact ⟨_, rfl⟩
            obtain ⟨vs', hvs⟩ := hce
            rw [hvs] at v2
            obtain ⟨y2, s', es, i1, -⟩ := ab_Vs_i v2
            rw [es, hT0, List.map_cons, List.map_cons] at e1
            injection e1 with e1 _
            have e1 : m_ld Lc cl = some (.inl y2) := e1
            rw [hy] at e1
            cases e1
            have i3 := (u2.I i1).2
            have i4 := i2.2
            rw [e2] at i4
            have i4 : yw.toInt = ν' (v_ce co T).1 + ((v_ce co T).2 + 1) := i4
            have w4 : yw.toInt ≤ hi := w4
            unfold v_room at q3
            rw [Bool.and_eq_true, Nat.ble_eq, Nat.ble_eq] at q3
            have ey : (yw.toInt - lo).toNat = (y.toInt - lo).toNat + 1 := by omega
            rw [f1, f2]
            refine ih Lc' σ' _ _ yw f3 ?_ w1 (by omega) ?_ ?_
            · unfold v_cn at f4 hcn ⊢
              cases co with
              | none => exact f4
              | some d => dsimp only at f4 hcn ⊢; omega
            · rw [ey, Nat.succ_mul]
              have := q3.1
              omega
            · rw [ey, Nat.succ_mul]
              have := q3.2
              omega
          · cases q2
  refine ar_go_ok hl (hgd _) (hSP _) 4000 false ct.1 z [] _ oA hg none none ν σ0 _ [] σ0 Q J (fun w => by cases w) (fun w => by cases w) hJ (fun p hp => by cases hp) u (ab_L0_ok g) trivial ⟨hK, ac_fr.rf, n0, (fun o ho => by cases ho), fun g hg => by cases hg⟩ (fun o ho => ?_)
  have hb' := List.all_eq_true.mp hA o ho
  cases o with
  | inl e =>
    intro ν' x σ' u2 hx hσ
    obtain ⟨k2, k3, k4, k5⟩ := v_ckE_ok (avs := avs) (c := σ0.1 1) hb' u2.1 hx hσ (fun d hd => by
      obtain ⟨b1, b2⟩ := n1 d hd
      exact ⟨Nat.lt_of_lt_of_le b1 u2.2.2, (u2.2.1 1 b1).trans b2⟩) (fun d hd => Nat.le_refl _)
    exact hQ x σ' k2 k3 k4 k5
  | inr S =>
    intro ν' Lc' sc' σ' u2 hL2 hs2 hp2
    have hb' : (v_fit co 0 T z.1.2.2.1 S && v_room R.1.1 R.1.2 S) = true := hb'
    rw [Bool.and_eq_true] at hb'
    obtain ⟨q1, q3⟩ := hb'
    obtain ⟨f1, f2, f3, f4⟩ := v_fit_ok (c := σ0.1 1) q1 u2.1 hL2 hs2 hp2 (fun d hd => by
      obtain ⟨b1, b2⟩ := n1 d hd
      exact ⟨Nat.lt_of_lt_of_le b1 u2.2.2, (u2.2.1 1 b1).trans b2⟩)
    obtain ⟨w, w1, w2⟩ := f3.2.1 _ (by rw [hT0]; exact List.mem_cons_self)
    obtain ⟨y, rfl, w3, w4⟩ := v_Ti w2
    unfold v_room at q3
    rw [Bool.and_eq_true, Nat.ble_eq, Nat.ble_eq] at q3
    rw [f1, f2]
    exact claim _ Lc' σ' _ _ y f3 f4 w1 rfl (Nat.le_trans q3.1 (Nat.le_add_right _ _)) (Nat.le_trans q3.2 (Nat.le_add_right _ _))
end VD
