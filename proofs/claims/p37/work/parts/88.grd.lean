/-! what is asked ahead of a step, by the analysis -/
def sm_cb (C : ab_C) (O : List ac_O) (c : Nat) : Option ab_E := match ac_find C O (sm_ca c).1 (0, 0) (0, ((sm_ca c).2 : Int)) with
  | some (.inl e) => some e
  | _ => none
def sm_vb (j pc : Nat) (v : ab_V) : Bool := match v with
  | .inr (.inr (.inl q)) => !(Nat.beq q.1 10) && (!(Nat.beq q.1 13) && (!(Nat.beq q.1 7) || (sm_md j pc).isNone))
  | _ => true
def sm_tb (C : ab_C) (O : List ac_O) (z : Nat × Bool × List Nat) (v : ab_V) : Bool := match sm_cb C O z.1 with
  | some f => ab_le 0 (ab_iv C.1 (f.1, f.2 - sm_bit z.2.1)).1 && (ab_le ((ab_iv C.1 (f.1, f.2 - sm_bit z.2.1)).2 + 1) (sm_mx z.1 : Int) && match ac_find C O (sm_arr z.1) (0, 0) (f.1, f.2 - sm_bit z.2.1) with
    | some w => ab_eV w v
    | none => false)
  | none => false
def sm_eqb (a b : sm_M) : Bool := decide (a = b)
def sm_clb (c : Nat) : Bool := Nat.beq c 7 || (Nat.beq c 10 || Nat.beq c 13)
def sm_gpb (j pc : Nat) (r : mRow) (st : List ab_V) (C : ab_C) (O : List ac_O) : Bool := (Nat.blt r.2.2.1 13 && !(Nat.beq r.2.2.1 1)) && match st with
  | v :: w :: _ => sm_vb j pc v && (bif sm_isc r.2.2.1 r.2.2.2.1 then !(sm_NT j) && (match sm_md j pc with
      | some z => !(z.2.1) && (sm_eqb (sm_md j (pc + 3)) (some (z.1, true, z.2.2)) && (decide (sm_ca z.1 = (r.2.2.1, r.2.2.2.1)) && (sm_clb z.1 && match v, sm_cb C O z.1 with
        | .inl e, some f => ab_eE e (f.1, f.2 + 1)
        | _, _ => false)))
      | none => false)
    else match sm_md j pc with
      | none => (sm_md j (pc + 3)).isNone
      | some z => bif Nat.beq r.2.2.1 z.1 then z.2.1 && (sm_eqb (sm_md j (pc + 3)) (some (z.1, z.2.1, z.2.2.filter (fun f => !(Nat.beq f r.2.2.2.1)))) && sm_tb C O z w) else sm_eqb (sm_md j (pc + 3)) (some z))
  | _ => false
def sm_gab (j pc : Nat) (st : List ab_V) (C : ab_C) (O : List ac_O) : Bool := match st with
  | .inl x :: .inr (.inr (.inl q)) :: _ => bif Nat.beq q.1 17 || (Nat.beq q.1 20 || Nat.beq q.1 21) then (sm_md j pc).isNone && (!(sm_NT j) && match sm_cb C O (sm_e0 q.1) with
      | some f => (match sm_md j (pc + 1) with
        | none => ab_leq C (x.1, x.2 + 1) f
        | some z => Nat.beq z.1 (sm_e0 q.1) && (!(z.2.1) && (sm_al (sm_e0 q.1) z.2.2 && (ab_leq C x f && ab_leq C f x))))
      | none => false)
    else sm_same j pc (pc + 1)
  | _ => false
def sm_gib (j pc : Nat) (st : List ab_V) (C : ab_C) (O : List ac_O) : Bool := match st with
  | _ :: .inl x :: w :: _ => (match sm_md j pc with
    | some z => Nat.beq z.1 13 && (!(z.2.1) && ((Nat.beq x.1 0 && ab_le 0 x.2) && (sm_eqb (sm_md j (pc + 1)) (some (13, false, z.2.2.filter (fun f => !(Nat.beq f x.2.toNat)))) && sm_tb C O (13, false, z.2.2) w)))
    | none => false)
  | _ => false
def sm_gb : ar_D := fun j z S => match m_at z.2.1 S.2.1 with
  | none => false
  | some r => match r.1 with
    | .getfield _ => sm_gg j S.2.1 r
    | .putfield _ => sm_gpb j S.2.1 r S.2.2.2.1 S.1 S.2.2.2.2.1.2.1
    | .arraylength => sm_same j S.2.1 (S.2.1 + 1)
    | .iaload => sm_same j S.2.1 (S.2.1 + 1) && (sm_md j S.2.1).isNone
    | .laload => sm_same j S.2.1 (S.2.1 + 1)
    | .aaload => sm_gab j S.2.1 S.2.2.2.1 S.1 S.2.2.2.2.1.2.1
    | .iastore => sm_gib j S.2.1 S.2.2.2.1 S.1 S.2.2.2.2.1.2.1
    | .lastore => sm_same j S.2.1 (S.2.1 + 1)
    | .invokevirtual _ => sm_gc j S.2.1 r
    | .invokespecial _ => sm_gc j S.2.1 r && !(Nat.beq r.2.2.1 2000)
    | .invokestatic _ => sm_gc j S.2.1 r
    | .ireturn => sm_gr j S.2.1
    | .lreturn => sm_gr j S.2.1
    | .areturn => sm_gr j S.2.1 && !(sm_NT j)
    | .return_ => sm_gr j S.2.1
    | .new _ => false
    | .newarray _ => false
    | .anewarray _ => false
    | .multianewarray _ _ => false
    | .baload => false
    | .bastore => false
    | .aastore => false
    | _ => sm_gs j S.2.1 r
section SM6
variable {xs : ab_X} {C : ab_C} {ν : ab_N} {σ : mS} {O : List ac_O} {st : List ab_V} {sc : List mV} {j pc : Nat} {r : mRow}
theorem sm_cb_ok {c : Nat} {e : ab_E} (h : ab_cx xs C ν) (hO : ∀ o ∈ O, ac_ov C.1.length ν σ o) (hb : sm_cb C O c = some e) : ab_I C.1.length ν e (sm_cn σ c) := by
  unfold sm_cb at hb
  split at hb
  · rename_i f hf
    cases hb
    have g := ac_find_ok (i := 0) (k := (sm_ca c).2) h hO (ab_con h) (ab_con h) hf
    obtain ⟨y, h1, h2⟩ := ab_Vi g
    unfold sm_cn
    rw [h1]
    exact h2
  · cases hb
theorem sm_vb_ok {v : ab_V} {x : mV} {n : Nat} (hv : ab_Vr n ν v x) (hb : sm_vb j pc v = true) : gV (fun q => q.1 ≠ 10 ∧ q.1 ≠ 13 ∧ (q.1 = 7 → sm_md j pc = none)) x := by
  rcases v with a | a | z | q
  · obtain ⟨y, rfl, -⟩ := ab_Vi hv; trivial
  · obtain ⟨y, rfl, -⟩ := ab_Vl hv; trivial
  · obtain ⟨y, rfl, g⟩ := ab_Va hv
    cases y with
    | none => trivial
    | some p =>
      obtain ⟨-, -, -, g4, -⟩ := g
      have g4 : p.1 = z.1 := g4
      unfold sm_vb at hb
      simp only [Bool.and_eq_true, Bool.or_eq_true, Bool.not_eq_true'] at hb
      show p.1 ≠ 10 ∧ p.1 ≠ 13 ∧ (p.1 = 7 → sm_md j pc = none)
      rw [g4]
      refine ⟨fun e => ?_, fun e => ?_, fun e => ?_⟩
      · rw [e] at hb; exact absurd hb.1 (by decide)
      · rw [e] at hb; exact absurd hb.2.1 (by decide)
      · rcases hb.2.2 with b | b
        · rw [e] at b; exact absurd b (by decide)
        · exact Option.isNone_iff_eq_none.mp b
  · obtain ⟨a, b, rfl, -⟩ := ab_Vc hv; trivial
theorem sm_tb_ok {z : Nat × Bool × List Nat} {v : ab_V} {q : Nat × Nat} (h : ab_cx xs C ν) (hO : ∀ o ∈ O, ac_ov C.1.length ν σ o) (hv : ab_Vr C.1.length ν v (.inr (.inr (some q)))) (hb : sm_tb C O z v = true) : sm_tgt σ z q := by
  unfold sm_tb at hb
  cases hf : sm_cb C O z.1 with
  | none => rw [hf] at hb; cases hb
  | some f =>
    rw [hf] at hb
    dsimp only at hb
    rw [Bool.and_eq_true, Bool.and_eq_true, ab_le_ok, ab_le_ok] at hb
    obtain ⟨b1, b2, b3⟩ := hb
    have g := sm_cb_ok h hO hf
    have gi : ab_I C.1.length ν (f.1, f.2 - sm_bit z.2.1) (sm_cn σ z.1 - sm_bit z.2.1) := ⟨g.1, by have := g.2; show _ = ν f.1 + (f.2 - sm_bit z.2.1); omega⟩
    have iv := ab_iv_ok h.1 gi
    cases hw : ac_find C O (sm_arr z.1) (0, 0) (f.1, f.2 - sm_bit z.2.1) with
    | none => rw [hw] at b3; cases b3
    | some w =>
      rw [hw] at b3
      have e := ab_eV_ok b3
      subst e
      have gk : ab_I C.1.length ν (f.1, f.2 - sm_bit z.2.1) (((sm_cn σ z.1 - sm_bit z.2.1).toNat : Nat) : Int) := by
        have : (((sm_cn σ z.1 - sm_bit z.2.1).toNat : Nat) : Int) = sm_cn σ z.1 - sm_bit z.2.1 := by omega
        rw [this]
        exact gi
      have gv := ac_find_ok (i := 0) (k := (sm_cn σ z.1 - sm_bit z.2.1).toNat) h hO (ab_con h) gk hw
      refine ⟨(sm_cn σ z.1 - sm_bit z.2.1).toNat, by omega, by omega, ?_⟩
      rcases w with a | a | y | a
      · exact hv.elim
      · exact hv.elim
      · obtain ⟨r', e1, g1⟩ := ab_Va gv
        rw [e1]
        obtain ⟨-, -, k1, k2, k3⟩ := (hv : ab_R C.1.length ν y (some q))
        cases r' with
        | none =>
          have g3 := g1.2.2
          have g3 : ν y.2.2.1 + y.2.2.2 = 0 := g3
          have k1 : ν y.2.2.1 + y.2.2.2 = 1 := k1
          omega
        | some p =>
          obtain ⟨-, -, l1, l2, l3⟩ := g1
          have l2 : p.1 = y.1 := l2
          have k2 : q.1 = y.1 := k2
          have l3 : (p.2 : Int) = ν y.2.1.1 + y.2.1.2 := l3
          have k3 : (q.2 : Int) = ν y.2.1.1 + y.2.1.2 := k3
          have : p = q := Prod.ext (l2.trans k2.symm) (by omega)
          rw [this]
      · exact hv.elim
theorem sm_gpb_ok (h : ab_cx xs C ν) (hO : ∀ o ∈ O, ac_ov C.1.length ν σ o) (hst : ab_Vs C.1.length ν st sc) (hb : sm_gpb j pc r st C O = true) : sm_gp j pc r sc σ := by
  unfold sm_gpb at hb
  simp only [Bool.and_eq_true, Nat.blt_eq, Bool.not_eq_true'] at hb
  obtain ⟨⟨b1, b2⟩, b3⟩ := hb
  refine ⟨⟨b1, fun e => by rw [e] at b2; cases b2⟩, ?_⟩
  rcases st with _ | ⟨v, _ | ⟨w, st⟩⟩
  · cases b3
  · cases b3
  obtain ⟨x, s1, rfl, hv, h2⟩ := ab_Vs_c hst
  obtain ⟨y, s2, rfl, hw, h3⟩ := ab_Vs_c h2
  rcases y with a | a | _ | q
  · trivial
  · trivial
  · trivial
  simp only [Bool.and_eq_true] at b3
  obtain ⟨b4, b5⟩ := b3
  refine ⟨sm_vb_ok hv b4, ?_⟩
  cases hisc : sm_isc r.2.2.1 r.2.2.2.1 with
  | true =>
    rw [hisc] at b5
    dsimp only [cond_true] at b5
    rw [if_pos rfl]
    simp only [Bool.and_eq_true, Bool.not_eq_true'] at b5
    obtain ⟨c1, c2⟩ := b5
    refine ⟨c1, ?_⟩
    cases hm : sm_md j pc with
    | none => rw [hm] at c2; cases c2
    | some z =>
      rw [hm] at c2
      simp only [Bool.and_eq_true, Bool.not_eq_true'] at c2
      obtain ⟨d1, d2, d3, d4, d5⟩ := c2
      obtain ⟨c0, b, un⟩ := z
      have d1 : b = false := d1
      subst d1
      refine ⟨c0, un, rfl, of_decide_eq_true d2, ?_, of_decide_eq_true d3, ?_⟩
      · unfold sm_clb at d4
        simp only [Bool.or_eq_true] at d4
        rcases d4 with d | d | d
        · exact Or.inl (Nat.eq_of_beq_eq_true d)
        · exact Or.inr (Or.inl (Nat.eq_of_beq_eq_true d))
        · exact Or.inr (Or.inr (Nat.eq_of_beq_eq_true d))
      · split at d5
        · rename_i e f hf
          have g := sm_cb_ok h hO hf
          obtain ⟨t, rfl, g2⟩ := ab_Vi hv
          have e1 := ab_eE_ok d5
          subst e1
          have a1 : sm_cn σ c0 = ν f.1 + f.2 := g.2

          show t.toInt = sm_cn σ c0 + 1
          have a2 : t.toInt = ν f.1 + (f.2 + 1) := g2.2
          omega
        · cases d5
  | false =>
    rw [hisc] at b5
    dsimp only [cond_false] at b5
    rw [if_neg (by decide)]
    cases hm : sm_md j pc with
    | none => rw [hm] at b5; exact Option.isNone_iff_eq_none.mp b5
    | some z =>
      rw [hm] at b5
      dsimp only at b5 ⊢
      cases hc : Nat.beq r.2.2.1 z.1 with
      | true =>
        rw [hc] at b5
        dsimp only [cond_true] at b5
        simp only [Bool.and_eq_true] at b5
        rw [if_pos (Nat.eq_of_beq_eq_true hc)]
        exact ⟨b5.1, of_decide_eq_true b5.2.1, sm_tb_ok h hO hw b5.2.2⟩
      | false =>
        rw [hc] at b5
        rw [if_neg (fun e => by rw [e, Nat.beq_refl] at hc; cases hc)]
        exact of_decide_eq_true b5
theorem sm_gab_ok (h : ab_cx xs C ν) (hO : ∀ o ∈ O, ac_ov C.1.length ν σ o) (hst : ab_Vs C.1.length ν st sc) (hb : sm_gab j pc st C O = true) : sm_ga j pc sc σ := by
  unfold sm_gab at hb
  split at hb
  · rename_i x q st'
    obtain ⟨y, s1, rfl, hxs, h2⟩ := ab_Vs_i hst
    obtain ⟨p, s2, rfl, hp, h3⟩ := ab_Vs_a h2
    cases p with
    | none => trivial
    | some p =>
      have e : p.1 = q.1 := hp.2.2.2.1
      show if p.1 = 17 ∨ p.1 = 20 ∨ p.1 = 21 then _ else _
      rw [e]
      cases hc : (Nat.beq q.1 17 || (Nat.beq q.1 20 || Nat.beq q.1 21)) with
      | false =>
        rw [hc] at hb
        simp only [Bool.or_eq_false_iff] at hc
        rw [if_neg (fun z => by
          rcases z with z | z | z
          · rw [z] at hc; exact absurd hc.1 (by decide)
          · rw [z] at hc; exact absurd hc.2.1 (by decide)
          · rw [z] at hc; exact absurd hc.2.2 (by decide))]
        exact of_decide_eq_true hb
      | true =>
        rw [hc] at hb
        dsimp only [cond_true] at hb
        simp only [Bool.or_eq_true] at hc
        rw [if_pos (by
          rcases hc with z | z | z
          · exact Or.inl (Nat.eq_of_beq_eq_true z)
          · exact Or.inr (Or.inl (Nat.eq_of_beq_eq_true z))
          · exact Or.inr (Or.inr (Nat.eq_of_beq_eq_true z)))]
        simp only [Bool.and_eq_true, Bool.not_eq_true'] at hb
        obtain ⟨b1, b2, b3⟩ := hb
        refine ⟨Option.isNone_iff_eq_none.mp b1, b2, ?_⟩
        cases hf : sm_cb C O (sm_e0 q.1) with
        | none => rw [hf] at b3; cases b3
        | some f =>
          rw [hf] at b3
          dsimp only at b3
          have g := sm_cb_ok h hO hf
          cases hm : sm_md j (pc + 1) with
          | none =>
            rw [hm] at b3
            exact Or.inl ⟨rfl, ab_leq_ok1 h hxs g b3⟩
          | some z =>
            rw [hm] at b3
            simp only [Bool.and_eq_true, Bool.not_eq_true'] at b3
            obtain ⟨d1, d2, d3, d4, d5⟩ := b3
            obtain ⟨c0, b, un⟩ := z
            have d1 : c0 = sm_e0 q.1 := Nat.eq_of_beq_eq_true d1
            have d2 : b = false := d2
            subst d1; subst d2
            have a1 := ab_leq_ok h hxs g d4
            have a2 := ab_leq_ok h g hxs d5
            exact Or.inr ⟨un, rfl, d3, by omega⟩
  · cases hb
theorem sm_gib_ok (h : ab_cx xs C ν) (hO : ∀ o ∈ O, ac_ov C.1.length ν σ o) (hst : ab_Vs C.1.length ν st sc) (hb : sm_gib j pc st C O = true) : sm_gi j pc sc σ := by
  unfold sm_gib at hb
  split at hb
  · rename_i v x w st'
    obtain ⟨y0, s0, rfl, hv, h1⟩ := ab_Vs_c hst
    obtain ⟨y, s1, rfl, hxs, h2⟩ := ab_Vs_i h1
    obtain ⟨p, s2, rfl, hp, h3⟩ := ab_Vs_c h2
    rcases y0 with a | a | a <;> try trivial
    rcases p with b | b | _ | q <;> try trivial
    cases hm : sm_md j pc with
    | none => rw [hm] at hb; cases hb
    | some z =>
      rw [hm] at hb
      simp only [Bool.and_eq_true, Bool.not_eq_true'] at hb
      obtain ⟨b1, b2, ⟨b3, b4⟩, b5, b6⟩ := hb
      obtain ⟨c0, b, un⟩ := z
      have b1 : c0 = 13 := Nat.eq_of_beq_eq_true b1
      have b2 : b = false := b2
      subst b1; subst b2
      have b3 := Nat.eq_of_beq_eq_true b3
      rw [ab_le_ok] at b4
      have e1 : y.toInt = x.2 := by rw [hxs.2, b3, h.1.1]; omega
      have e2 : y.toNatClampNeg = x.2.toNat := by
        show y.toInt.toNat = x.2.toNat
        rw [e1]
      refine ⟨un, hm, ?_, sm_tb_ok h hO hp b6⟩
      rw [e2]
      exact of_decide_eq_true b5
  · cases hb
end SM6
theorem sm_gb_ok (kp : ac_Kp) : ar_gok sm_G kp sm_gb := by
  intro j z S hb xs ν σ0 Lc sc σ h hL hst hp
  unfold sm_gb at hb
  show match m_at z.2.1 S.2.1 with
    | none => False
    | some r => sm_g j S.2.1 r sc σ
  cases hr : m_at z.2.1 S.2.1 with
  | none => rw [hr] at hb; cases hb
  | some r =>
    rw [hr] at hb
    obtain ⟨ig, ln, ra, rb, rz, rp⟩ := r
    dsimp only at hb ⊢
    have hO := hp.2.2.2.1
    cases ig
    case putfield i => exact sm_gpb_ok h hO hst hb
    case aaload => exact sm_gab_ok h hO hst hb
    case iastore => exact sm_gib_ok h hO hst hb
    case iaload =>
      dsimp only at hb
      rw [Bool.and_eq_true] at hb
      exact ⟨hb.1, Option.isNone_iff_eq_none.mp hb.2⟩
    case invokespecial i =>
      dsimp only at hb
      rw [Bool.and_eq_true, Bool.not_eq_true'] at hb
      refine ⟨hb.1, fun e => ?_⟩
      have e : ra = 2000 := e
      have h2 : Nat.beq ra 2000 = false := hb.2
      rw [e] at h2
      exact absurd h2 (by decide)
    case areturn =>
      dsimp only at hb
      rw [Bool.and_eq_true, Bool.not_eq_true'] at hb
      exact hb
    case new i => cases hb
    case newarray i => cases hb
    case anewarray i => cases hb
    case multianewarray i d => cases hb
    case baload => cases hb
    case bastore => cases hb
    case aastore => cases hb
    all_goals exact hb
