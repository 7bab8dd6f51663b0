/-! the analysis goes through a method: branches, calls, handlers, loops -/
/-- an end of a method, or a place where it was cut -/
abbrev ab_Z : Type := ab_Q ⊕ ab_S
def ab_args (args : List ab_V) : List (Option ab_V) := args.flatMap (fun v => match v with
  | .inr (.inl _) => [some v, none]
  | _ => [some v])
def ab_L0 (nL : Nat) (args : List ab_V) : List (Option ab_V) := ab_args args ++ List.replicate (nL - (ab_args args).length) none
def ab_all {α β : Type} (F : α → Option (List β)) : List α → Option (List β)
  | [] => some []
  | a :: t => bif t.isEmpty then F a else match F a with
    | none => none
    | some r => match ab_all F t with
      | none => none
      | some r' => some (r ++ r')
theorem ab_all_ok {α β : Type} {F : α → Option (List β)} : ∀ {l : List α} {outs : List β}, ab_all F l = some outs → ∀ a ∈ l, ∃ r, F a = some r ∧ ∀ x ∈ r, x ∈ outs
  | [], _, _, _, h => by cases h
  | a0 :: t, outs, h, a, ha => by
    unfold ab_all at h
    cases ht : t.isEmpty with
    | true =>
      rw [ht] at h
      have e := List.isEmpty_iff.mp ht
      subst e
      have e2 := List.mem_singleton.mp ha
      subst e2
      exact ⟨outs, h, fun _ hx => hx⟩
    | false =>
      rw [ht] at h
      dsimp only [cond_false] at h
      cases hF : F a0 with
      | none => rw [hF] at h; cases h
      | some r =>
        rw [hF] at h
        dsimp only at h
        cases hR : ab_all F t with
        | none => rw [hR] at h; cases h
        | some r' =>
          rw [hR] at h
          cases h
          rcases List.mem_cons.mp ha with rfl | ha
          · exact ⟨r, hF, fun x hx => List.mem_append_left _ hx⟩
          · obtain ⟨r2, h1, h2⟩ := ab_all_ok hR a ha
            exact ⟨r2, h1, fun x hx => List.mem_append_right _ (h2 x hx)⟩
def ab_unz1 : List ab_Z → Option (List ab_Q)
  | [] => some []
  | .inl e :: t => (match ab_unz1 t with
    | some r => some (e :: r)
    | none => none)
  | .inr _ :: _ => none
def ab_unz (o : Option (List ab_Z)) : Option (List ab_Q) := match o with
  | some l => ab_unz1 l
  | none => none
theorem ab_unz1_ok : ∀ {l : List ab_Z} {r : List ab_Q}, ab_unz1 l = some r → ∀ x ∈ l, ∃ e ∈ r, x = .inl e
  | [], _, _, _, h => by cases h
  | .inl e :: t, r, h, x, hx => by
    unfold ab_unz1 at h
    cases ht : ab_unz1 t with
    | none => rw [ht] at h; cases h
    | some r' =>
      rw [ht] at h
      cases h
      rcases List.mem_cons.mp hx with rfl | hx
      · exact ⟨e, List.mem_cons_self, rfl⟩
      · obtain ⟨e', h1, h2⟩ := ab_unz1_ok ht x hx
        exact ⟨e', List.mem_cons_of_mem _ h1, h2⟩
  | .inr _ :: _, _, h, _, _ => by cases h
/-! cells that are known become part of a row of cells -/
def ab_vT (C : ab_C) (v : ab_V) : Option ab_T := match v with
  | .inl e => some (0, 0, (ab_iv C.1 e).1, (ab_iv C.1 e).2, 0, 0)
  | .inr (.inl e) => some (1, 0, (ab_iv C.1 e).1, (ab_iv C.1 e).2, 0, 0)
  | .inr (.inr (.inl z)) => bif ab_le (ab_iv C.1 z.2.2).2 0 then some (2, 0, 0, 0, 0, 0) else some (2, z.1, (ab_iv C.1 z.2.1).1, (ab_iv C.1 z.2.1).2, (bif ab_le 1 (ab_iv C.1 z.2.2).1 then 1 else 0), 1)
  | .inr (.inr (.inr _)) => none
def ab_ab1 (C : ab_C) (c i k : Nat) (v : ab_V) (num : Bool) : List ab_G → Option (List ab_G)
  | [] => none
  | g :: t => bif Nat.beq g.1 c && (bif num then Nat.beq g.2.2.2.1 k && (Nat.beq g.2.2.2.2.1 k && Nat.beq (g.2.2.1 + 1) i) else Nat.beq g.2.1 i && (Nat.beq g.2.2.1 i && Nat.beq (g.2.2.2.2.1 + 1) k)) then
      (match ab_jn C v g.2.2.2.2.2 with
      | some T => some ((g.1, g.2.1, i, g.2.2.2.1, k, T) :: t)
      | none => none)
    else match ab_ab1 C c i k v num t with
      | some t' => some (g :: t')
      | none => none
def ab_ab (C : ab_C) (G : List ab_G) (c i k : Nat) (v : ab_V) (num : Bool) : List ab_G := match ab_ab1 C c i k v num G with
  | some G' => G'
  | none => match ab_vT C v with
    | some T => (c, i, i, k, k, T) :: G
    | none => G
def ab_abH (C : ab_C) (H : ab_H) (c i k : Nat) (num : Bool) : ab_H := match ab_rdc C H c i k with
  | some v => (H.1, H.2.1, ab_ab C H.2.2.1 c i k v num, H.2.2.2)
  | none => H
def ab_abN (C : ab_C) (c m : Nat) : List Nat → ab_H → ab_H
  | [], H => H
  | k :: t, H => ab_abN C c m t (ab_abH C H c m k true)
def ab_abF (keep : Bool) (H : ab_H) (p : ab_O → Bool) : ab_H := bif keep then H else (H.1, H.2.1, H.2.2.1, H.2.2.2.filter p)
def ab_abC (C : ab_C) (i : Nat) (keep : Bool) : List (Nat × Nat) → ab_H → ab_H
  | [], H => H
  | c :: t, H => ab_abC C i keep t (match ab_cnt H c.1 with
    | some b => ab_abF (keep || Nat.beq i 1) (ab_abN C c.1 (b.2.toNat - 1) (List.range c.2) H) (fun o => !(Nat.beq o.1 c.1 && Nat.beq o.2.1 (b.2.toNat - 1)))
    | none => H)
def ab_abA (C : ab_C) (i : Nat) (keep : Bool) : List Nat → ab_H → ab_H
  | [], H => H
  | c :: t, H => ab_abA C i keep t (match ab_cnt H c with
    | some b => ab_abF (keep || Nat.beq i 1) (ab_abH C H c (b.2.toNat - 1) (i - 1) false) (fun o => !(Nat.beq o.1 c && (Nat.beq o.2.1 (b.2.toNat - 1) && Nat.beq o.2.2.1 (i - 1))))
    | none => H)
/-- the counter's place, classes of objects, classes of arrays, whether the cells stay known -/
abbrev ab_AP : Type := Nat × List (Nat × Nat) × List Nat × Bool
def ab_preH (C : ab_C) (L : List (Option ab_V)) (H : ab_H) (p : ab_AP) : ab_H := match ab_ld L p.1 with
  | some (.inl e) => bif ab_one (ab_iv C.1 e) && ab_le 1 (ab_iv C.1 e).1 then ab_abA C (ab_iv C.1 e).1.toNat p.2.2.2 p.2.2.1 (ab_abC C (ab_iv C.1 e).1.toNat p.2.2.2 p.2.1 H) else H
  | _ => H
def ab_pre (AB : Nat → Nat → Option ab_AP) (j : Nat) (S : ab_S) : ab_S := match AB j S.2.1 with
  | some p => (S.1, S.2.1, S.2.2.1, S.2.2.2.1, ab_preH S.1 S.2.2.1 S.2.2.2.2.1 p, S.2.2.2.2.2)
  | none => S
section ABP
variable {xs : ab_X} {C : ab_C} {ν : ab_N} {H : ab_H} {σ : mS} {v : ab_V} {x : mV}
theorem ab_vT_ok {T : ab_T} (h : ab_cx xs C ν) (hv : ab_Vr C.1.length ν v x) (ht : ab_vT C v = some T) : ab_Tr T x := by
  rcases v with e | e | z | q
  · cases ht
    obtain ⟨y, rfl, g⟩ := ab_Vi hv
    exact ⟨rfl, ab_iv_ok h.1 g⟩
  · cases ht
    obtain ⟨y, rfl, g⟩ := ab_Vl hv
    exact ⟨rfl, ab_iv_ok h.1 g⟩
  · obtain ⟨r, rfl, g⟩ := ab_Va hv
    have hz := ab_iv_ok h.1 (ab_R_z g)
    unfold ab_vT at ht
    dsimp only at ht
    cases hb : ab_le (ab_iv C.1 z.2.2).2 0 with
    | true =>
      rw [hb] at ht
      rw [ab_le_ok] at hb
      cases ht
      cases r with
      | none => exact ⟨rfl, rfl⟩
      | some p =>
        have : ν z.2.2.1 + z.2.2.2 = 1 := g.2.2.1
        omega
    | false =>
      rw [hb] at ht
      cases ht
      cases r with
      | none =>
        have g3 : ν z.2.2.1 + z.2.2.2 = 0 := g.2.2
        refine ⟨rfl, ?_⟩
        show (bif ab_le 1 (ab_iv C.1 z.2.2).1 then 1 else 0) = 0
        cases hc : ab_le 1 (ab_iv C.1 z.2.2).1 with
        | true => rw [ab_le_ok] at hc; omega
        | false => rfl
      | some p =>
        obtain ⟨g1, g2, g3, g4, g5⟩ := g
        exact ⟨rfl, rfl, g4, ab_iv_ok h.1 ⟨g1, g5⟩⟩
  · cases ht
def ab_Gok (G : List ab_G) (σ : mS) : Prop := ∀ g ∈ G, ∀ i k, g.2.1 ≤ i → i ≤ g.2.2.1 → g.2.2.2.1 ≤ k → k ≤ g.2.2.2.2.1 → ab_Tr g.2.2.2.2.2 (m_get σ g.1 i k)
theorem ab_ab1_ok {c i k : Nat} {num : Bool} (h : ab_cx xs C ν) (hv : ab_Vr C.1.length ν v (m_get σ c i k)) : ∀ {G G' : List ab_G}, ab_Gok G σ → ab_ab1 C c i k v num G = some G' → ab_Gok G' σ
  | [], _, _, hs => by cases hs
  | g :: t, G', hG, hs => by
    unfold ab_ab1 at hs
    have ht : ab_Gok t σ := fun g hg => hG g (List.mem_cons_of_mem _ hg)
    cases hb : (Nat.beq g.1 c && (bif num then Nat.beq g.2.2.2.1 k && (Nat.beq g.2.2.2.2.1 k && Nat.beq (g.2.2.1 + 1) i) else Nat.beq g.2.1 i && (Nat.beq g.2.2.1 i && Nat.beq (g.2.2.2.2.1 + 1) k))) with
    | true =>
      rw [hb] at hs
      dsimp only [cond_true] at hs
      rw [Bool.and_eq_true] at hb
      have e1 := Nat.eq_of_beq_eq_true hb.1
      cases hj : ab_jn C v g.2.2.2.2.2 with
      | none => rw [hj] at hs; cases hs
      | some T =>
        rw [hj] at hs
        cases hs
        have jj := ab_jn_ok h hj
        intro g' hg' i' k' h1 h2 h3 h4
        rcases List.mem_cons.mp hg' with rfl | hg'
        · dsimp only at h1 h2 h3 h4 ⊢
          by_cases hq : i' = i ∧ k' = k
          · obtain ⟨q1, q2⟩ := hq
            subst q1; subst q2
            rw [e1]
            exact jj.2 _ hv
          · refine jj.1 _ (hG g List.mem_cons_self i' k' h1 ?_ h3 ?_)
            · cases num with
              | true =>
                have hb2 := hb.2
                simp only [cond_true, Bool.and_eq_true] at hb2
                have a1 := Nat.eq_of_beq_eq_true hb2.1
                have a2 := Nat.eq_of_beq_eq_true hb2.2.2
                by_cases q : i' = i
                · exact absurd ⟨q, by omega⟩ hq
                · omega
              | false =>
                have hb2 := hb.2
                simp only [cond_false, Bool.and_eq_true] at hb2
                have a1 := Nat.eq_of_beq_eq_true hb2.2.1
                omega
            · cases num with
              | true =>
                have hb2 := hb.2
                simp only [cond_true, Bool.and_eq_true] at hb2
                have a1 := Nat.eq_of_beq_eq_true hb2.2.1
                omega
              | false =>
                have hb2 := hb.2
                simp only [cond_false, Bool.and_eq_true] at hb2
                have a1 := Nat.eq_of_beq_eq_true hb2.1
                have a2 := Nat.eq_of_beq_eq_true hb2.2.1
                have a3 := Nat.eq_of_beq_eq_true hb2.2.2
                by_cases q : k' = k
                · exact absurd ⟨by omega, q⟩ hq
                · omega
        · exact ht g' hg' i' k' h1 h2 h3 h4
    | false =>
      rw [hb] at hs
      dsimp only [cond_false] at hs
      cases hr : ab_ab1 C c i k v num t with
      | none => rw [hr] at hs; cases hs
      | some t' =>
        rw [hr] at hs
        cases hs
        have ih := ab_ab1_ok h hv ht hr
        intro g' hg'
        rcases List.mem_cons.mp hg' with rfl | hg'
        · exact hG g' List.mem_cons_self
        · exact ih g' hg'
theorem ab_ab_ok {c i k : Nat} {num : Bool} {G : List ab_G} (h : ab_cx xs C ν) (hv : ab_Vr C.1.length ν v (m_get σ c i k)) (hG : ab_Gok G σ) : ab_Gok (ab_ab C G c i k v num) σ := by
  unfold ab_ab
  cases h1 : ab_ab1 C c i k v num G with
  | some G' => exact ab_ab1_ok h hv hG h1
  | none =>
    dsimp only
    cases ht : ab_vT C v with
    | none => exact hG
    | some T =>
      intro g hg i' k' h1 h2 h3 h4
      rcases List.mem_cons.mp hg with rfl | hg
      · dsimp only at h1 h2 h3 h4 ⊢
        have e1 : i' = i := by omega
        have e2 : k' = k := by omega
        subst e1; subst e2
        exact ab_vT_ok h hv ht
      · exact hG g hg i' k' h1 h2 h3 h4
theorem ab_abH_ok {c i k : Nat} {num : Bool} (h : ab_cx xs C ν) (hp : ab_hp C.1.length ν H σ) : ab_hp C.1.length ν (ab_abH C H c i k num) σ := by
  unfold ab_abH
  cases hr : ab_rdc C H c i k with
  | none => exact hp
  | some v => exact ⟨hp.1, hp.2.1, ab_ab_ok h (ab_rdc_ok h hp hr) hp.2.2.1, hp.2.2.2⟩
theorem ab_abN_ok {c m : Nat} (h : ab_cx xs C ν) : ∀ {ks : List Nat} {H : ab_H}, ab_hp C.1.length ν H σ → ab_hp C.1.length ν (ab_abN C c m ks H) σ
  | [], _, hp => hp
  | _ :: t, _, hp => ab_abN_ok h (ks := t) (ab_abH_ok h hp)
theorem ab_abF_ok {keep : Bool} {p : ab_O → Bool} {n : Nat} (hp : ab_hp n ν H σ) : ab_hp n ν (ab_abF keep H p) σ := by
  unfold ab_abF
  cases keep with
  | true => exact hp
  | false => exact hp.filt p
theorem ab_abC_ok {i : Nat} {keep : Bool} (h : ab_cx xs C ν) : ∀ {cs : List (Nat × Nat)} {H : ab_H}, ab_hp C.1.length ν H σ → ab_hp C.1.length ν (ab_abC C i keep cs H) σ
  | [], _, hp => hp
  | c :: t, H, hp => by
    refine ab_abC_ok h (cs := t) ?_
    cases ab_cnt H c.1 with
    | none => exact hp
    | some b => exact ab_abF_ok (ab_abN_ok h hp)
theorem ab_abA_ok {i : Nat} {keep : Bool} (h : ab_cx xs C ν) : ∀ {cs : List Nat} {H : ab_H}, ab_hp C.1.length ν H σ → ab_hp C.1.length ν (ab_abA C i keep cs H) σ
  | [], _, hp => hp
  | c :: t, H, hp => by
    refine ab_abA_ok h (cs := t) ?_
    cases ab_cnt H c with
    | none => exact hp
    | some b => exact ab_abF_ok (ab_abH_ok h hp)
theorem ab_preH_ok {L : List (Option ab_V)} {p : ab_AP} (h : ab_cx xs C ν) (hp : ab_hp C.1.length ν H σ) : ab_hp C.1.length ν (ab_preH C L H p) σ := by
  unfold ab_preH
  split
  · rename_i e he
    cases (ab_one (ab_iv C.1 e) && ab_le 1 (ab_iv C.1 e).1) with
    | true => exact ab_abA_ok h (ab_abC_ok h hp)
    | false => exact hp
  · exact hp
end ABP
abbrev ab_GT : Type := Bool → Nat → mAl → List ab_Lp → ab_S → Option (List ab_Z)
abbrev ab_SP : Type := Nat → List ab_V → ab_C → ab_H → Option (List ab_Q)
/-- a call: by a contract that is known, or through its body -/
def ab_ret (SP : ab_SP) (G : ab_GT) (j : Nat) (args : List ab_V) (C : ab_C) (H : ab_H) : Option (List ab_Q) := match SP j args C H with
  | some outs => some outs
  | none => match m_alF[j]? with
    | some z => bif Nat.ble (ab_args args).length z.1.2.2.1 then ab_unz (G false j z [] (C, 0, ab_L0 z.1.2.2.1 args, [], H, 0, 0)) else none
    | none => none
/-- behind a call -/
def ab_back (G : ab_GT) (ms : Bool) (j : Nat) (z : mAl) (act : List ab_Lp) (S : ab_S) (y' : mMt) (st' : List ab_V) (o : ab_Q) : Option (List ab_Z) := match o.2.1 with
  | .inl v => G ms j z act (o.1, S.2.1 + 3, S.2.2.1, v.toList ++ st', o.2.2, S.2.2.2.2.2.1 + y'.2.2.2.2.1.cells, S.2.2.2.2.2.2 + y'.2.2.2.2.1.slots)
  | .inr x => match z.1.2.2.2.2.2 with
    | [] => bif ab_rm z.1.2.2.2.2.1 (S.2.2.2.2.2.1 + y'.2.2.2.2.1.cells) (S.2.2.2.2.2.2 + y'.2.2.2.2.1.slots) then some [.inl (o.1, .inr x, o.2.2)] else none
    | hh => match m_hnd hh S.2.1 x with
      | none => none
      | some h => match m_at z.2.1 h with
        | none => none
        | some r => match r.1 with
          | .astore i => bif Nat.blt i S.2.2.1.length then G ms j z act (o.1, h + 2, (ab_clr S.2.2.1 i).set i none, [], o.2.2, S.2.2.2.2.2.1 + y'.2.2.2.2.1.cells, S.2.2.2.2.2.2 + y'.2.2.2.2.1.slots) else none
          | .astore_n i => bif Nat.blt (i : Nat) S.2.2.1.length then G ms j z act (o.1, h + 1, (ab_clr S.2.2.1 i).set i none, [], o.2.2, S.2.2.2.2.2.1 + y'.2.2.2.2.1.cells, S.2.2.2.2.2.2 + y'.2.2.2.2.1.slots) else none
          | _ => none
def ab_body (SP : ab_SP) (G : ab_GT) (ms : Bool) (j : Nat) (z : mAl) (act : List ab_Lp) (S : ab_S) : Option (List ab_Z) := match ab_stp ms z.1 z.2.1 S.2.1 S.1 S.2.2.1 S.2.2.2.1 S.2.2.2.2.1 S.2.2.2.2.2.1 S.2.2.2.2.2.2 with
  | none => none
  | some (.inl nx) => ab_all (G ms j z act) nx
  | some (.inr (.inl e)) => some [.inl e]
  | some (.inr (.inr c)) => match m_mt[c.1]? with
    | none => none
    | some y' => match ab_ret SP G c.1 c.2.1 S.1 S.2.2.2.2.1 with
      | none => none
      | some outs => ab_all (ab_back G ms j z act S y' c.2.2) outs
/-- cases by a small number -/
def ab_spk (S : ab_S) (e : ab_E) (hi : Int) : Nat → Int → List ab_S
  | 0, _ => []
  | m + 1, x => bif ab_le x hi then (ab_asm S.1 .eq e (0, x), S.2) :: ab_spk S e hi m (x + 1) else []
def ab_nume (v : ab_V) : Option ab_E := match v with
  | .inl e => some e
  | .inr (.inl e) => some e
  | .inr (.inr (.inl z)) => some z.2.1
  | .inr (.inr (.inr _)) => none
def ab_sp3 (S : ab_S) (e : ab_E) (c : Int) : List ab_S :=
  (bif ab_le c (ab_iv S.1.1 e).1 then [] else [(ab_asm S.1 .lt e (0, c), S.2)]) ++ ((bif ab_le (ab_iv S.1.1 e).1 c && ab_le c (ab_iv S.1.1 e).2 then [(ab_asm S.1 .eq e (0, c), S.2)] else []) ++ (bif ab_le (ab_iv S.1.1 e).2 c then [] else [(ab_asm S.1 .gt e (0, c), S.2)]))
def ab_sp1 (p : Nat × Option Int) (S : ab_S) : List ab_S := match ab_ld S.2.2.1 p.1 with
  | none => [S]
  | some v => match ab_nume v with
    | none => [S]
    | some e => match p.2 with
      | some c => ab_sp3 S e c
      | none => bif ab_le ((ab_iv S.1.1 e).1 + 1) (ab_iv S.1.1 e).2 && ab_le (ab_iv S.1.1 e).2 ((ab_iv S.1.1 e).1 + 16) then ab_spk S e (ab_iv S.1.1 e).2 17 (ab_iv S.1.1 e).1 else [S]
def ab_spm : List (Nat × Option Int) → List ab_S → List ab_S
  | [], r => r
  | i :: t, r => ab_spm t (r.flatMap (ab_sp1 i))
def ab_core (SP : ab_SP) (LP : Nat → Nat → Option ab_An) (G : ab_GT) (ms : Bool) (j : Nat) (z : mAl) (act : List ab_Lp) (S : ab_S) : Option (List ab_Z) := match LP j S.2.1 with
  | none => ab_body SP G ms j z act S
  | some an => match act.find? (fun l => Nat.beq l.1 S.2.1) with
    | some l => bif ab_re l S then some [] else none
    | none => bif ab_eOk an S then (match ab_ecn an (ab_eS an S).2.2.1 with
      | some bc => ab_body SP G ms j z (ab_lp an S bc :: act) (ab_eS an S)
      | none => none) else none
def ab_go (SP : ab_SP) (LP : Nat → Nat → Option ab_An) (PL : Nat → Nat → List (Nat × Option Int)) (AB : Nat → Nat → Option ab_AP) (cut : Nat → Nat → Bool) : Nat → ab_GT
  | 0 => fun _ _ _ _ _ => none
  | f + 1 => fun ms j z act S => bif cut j S.2.1 then some [.inr S] else ab_all (fun S => ab_core SP LP (ab_go SP LP PL AB cut f) ms j z act (ab_pre AB j S)) (ab_spm (PL j S.2.1) [S])
section ABF
variable {xs : ab_X} {C C' : ab_C} {ν ν' : ab_N} {H : ab_H} {σ : mS} {L : List (Option ab_V)} {Lc : List (Option mV)} {n N : Nat} {J : Nat → List (Option mV) → List mV → mS → Nat → Nat → Prop} {Q : mX → mS → Prop}
theorem ab_args_ok : ∀ {args : List ab_V} {avs : List mV}, ab_Vs n ν args avs → (m_args avs).length = (ab_args args).length ∧ ∀ (i : Nat) (v : ab_V), (ab_args args)[i]? = some (some v) → ∃ x, m_ld (m_args avs) i = some x ∧ ab_Vr n ν v x
  | [], [], _ => ⟨rfl, fun i v h => by simp [ab_args] at h⟩
  | [], _ :: _, h => h.elim
  | _ :: _, [], h => h.elim
  | w :: ws, y :: ys, ⟨h1, h2⟩ => by
    obtain ⟨e1, e2⟩ := ab_args_ok h2
    have one : m_args (y :: ys) = some y :: m_args ys → ab_args (w :: ws) = some w :: ab_args ws → (m_args (y :: ys)).length = (ab_args (w :: ws)).length ∧ ∀ (i : Nat) (v : ab_V), (ab_args (w :: ws))[i]? = some (some v) → ∃ x, m_ld (m_args (y :: ys)) i = some x ∧ ab_Vr n ν v x := by
      intro g1 g2
      rw [g1, g2]
      refine ⟨congrArg (· + 1) e1, fun i v hv => ?_⟩
      cases i with
      | zero =>
        have e3 : w = v := by simpa using hv
        subst e3
        exact ⟨y, by simp [m_ld], h1⟩
      | succ i =>
        obtain ⟨x, x1, x2⟩ := e2 i v (by simpa using hv)
        exact ⟨x, by simpa [m_ld] using x1, x2⟩
    have two : m_args (y :: ys) = some y :: none :: m_args ys → ab_args (w :: ws) = some w :: none :: ab_args ws → (m_args (y :: ys)).length = (ab_args (w :: ws)).length ∧ ∀ (i : Nat) (v : ab_V), (ab_args (w :: ws))[i]? = some (some v) → ∃ x, m_ld (m_args (y :: ys)) i = some x ∧ ab_Vr n ν v x := by
      intro g1 g2
      rw [g1, g2]
      refine ⟨congrArg (· + 2) e1, fun i v hv => ?_⟩
      match i, hv with
      | 0, hv =>
        have e3 : w = v := by simpa using hv
        subst e3
        exact ⟨y, by simp [m_ld], h1⟩
      | 1, hv => simp at hv
      | i + 2, hv =>
        obtain ⟨x, x1, x2⟩ := e2 i v (by simpa using hv)
        exact ⟨x, by simpa [m_ld] using x1, x2⟩
    rcases w with a | a | a | a
    · obtain ⟨b, rfl, _⟩ := ab_Vi h1
      exact one rfl rfl
    · obtain ⟨b, rfl, _⟩ := ab_Vl h1
      exact two rfl rfl
    · obtain ⟨b, rfl, _⟩ := ab_Va h1
      exact one rfl rfl
    · obtain ⟨a', b, rfl, _⟩ := ab_Vc h1
      exact one rfl rfl
theorem ab_L0_ok {nL : Nat} {args : List ab_V} {avs : List mV} (h : ab_Vs n ν args avs) : ab_Ls n ν (ab_L0 nL args) (m_L0 nL avs) := by
  obtain ⟨e1, e2⟩ := ab_args_ok h
  refine ⟨by unfold m_L0 ab_L0; rw [List.length_append, List.length_append, List.length_replicate, List.length_replicate, e1], fun i v hv => ?_⟩
  unfold ab_L0 at hv
  by_cases hi : i < (ab_args args).length
  · rw [List.getElem?_append_left hi] at hv
    obtain ⟨x, x1, x2⟩ := e2 i v hv
    refine ⟨x, ?_, x2⟩
    unfold m_ld m_L0
    rw [List.getElem?_append_left (by rw [e1]; exact hi)]
    exact x1
  · rw [List.getElem?_append_right (by omega)] at hv
    have := List.mem_of_getElem? hv
    rw [List.mem_replicate] at this
    cases this.2
/-- what an outcome owes -/
def ab_zo (xs : ab_X) (C : ab_C) (ν : ab_N) (J : Nat → List (Option mV) → List mV → mS → Nat → Nat → Prop) (Q : mX → mS → Prop) (o : ab_Z) : Prop := match o with
  | .inl e => ∀ ν' x σ', ab_up xs C ν e.1 ν' → ab_xo e.1.1.length ν' e.2.1 x → ab_hp e.1.1.length ν' e.2.2 σ' → Q x σ'
  | .inr q => ab_kq xs C ν J q
theorem ab_zo.up {o : ab_Z} (h : ab_zo xs C ν J Q o) (u : ab_up xs C ν C' ν') : ab_zo xs C' ν' J Q o := by
  cases o with
  | inl e => exact fun ν2 x σ' u2 h2 h3 => h ν2 x σ' (u.tr u2) h2 h3
  | inr q => exact fun ν2 Lc' sc' σ' u2 h2 h3 h4 => h ν2 Lc' sc' σ' (u.tr u2) h2 h3 h4
/-- a loop under way: what comes back to its head, with a counter that went on, is done -/
def ab_acs (J : Nat → List (Option mV) → List mV → mS → Nat → Nat → Prop) (N : Nat) (ν : ab_N) (l : ab_Lp) : Prop := l.2.2.1 ≤ N ∧ l.2.2.2.2.2.2.2 < N ∧ (∃ ν0 Lc0 σ0, ab_Ls l.2.2.1 ν0 l.2.2.2.1 Lc0 ∧ ab_hp l.2.2.1 ν0 l.2.2.2.2.1 σ0) ∧
  ∀ Lc σ, ab_LI l.2.1 l.2.2.1 ν l.2.2.2.1 l.2.2.2.2.1 Lc σ → (∀ y, ab_cv l.2.1 Lc = some y → (l.2.1.2.1 = true → ν l.2.2.2.2.2.2.2 < y) ∧ (l.2.1.2.1 = false → y < ν l.2.2.2.2.2.2.2)) → J l.1 Lc [] σ l.2.2.2.2.2.1 l.2.2.2.2.2.2.1
theorem ab_LI.bk {an : ab_An} {B : List (Option ab_V)} {Hb : ab_H} (h : ab_LI an n ν' B Hb Lc σ) (g : ab_ex n ν ν') : ab_LI an n ν B Hb Lc σ := ⟨h.1.ex g.sy (Nat.le_refl _), h.2.1.ex g.sy (Nat.le_refl _), h.2.2⟩
theorem ab_acs.up {l : ab_Lp} (h : ab_acs J N ν l) {N' : Nat} (g : ab_ex N ν ν') (hN : N ≤ N') : ab_acs J N' ν' l := by
  obtain ⟨h1, h2, h3, h4⟩ := h
  refine ⟨Nat.le_trans h1 hN, Nat.lt_of_lt_of_le h2 hN, h3, fun Lc σ hI hc => h4 Lc σ (hI.bk (fun j hj => g j (Nat.lt_of_lt_of_le hj h1))) (fun y hy => ?_)⟩
  rw [← g _ h2]
  exact hc y hy
/-- what throws lean on -/
def ab_TT (z : mAl) (Q : mX → mS → Prop) (J : Nat → List (Option mV) → List mV → mS → Nat → Nat → Prop) : Nat → List (Option mV) → mS → Nat → Nat → Nat → Prop := match z.1.2.2.2.2.2 with
  | [] => m_T Q z.1.2.2.2.2.1.cells z.1.2.2.2.2.1.slots
  | hh => m_TH hh z.2.1 J
/-- a judgement that is closed under the steps of a method -/
def ab_cl (l : Launch) (z : mAl) (xs0 : ab_X) (Q : mX → mS → Prop) (J : Nat → List (Option mV) → List mV → mS → Nat → Nat → Prop) : Prop := ∀ pc L st σ k n, m_step m_mt (m_ConI l) z.1.2.2.2.1 z.1.2.2.2.2.1 z.1.2.2.1 z.2.1 z.1.2.2.2.2.1.cells z.1.2.2.2.2.1.slots Q xs0 (ab_TT z Q J) J pc L st σ k n → J pc L st σ k n
def ab_GOK (l : Launch) (G : ab_GT) : Prop := ∀ (ms : Bool) (j : Nat) (z : mAl) (act : List ab_Lp) (S : ab_S) (outs : List ab_Z), G ms j z act S = some outs → ∀ (xs xs0 : ab_X) (ν : ab_N) (Lc : List (Option mV)) (sc : List mV) (σ : mS) (Q : mX → mS → Prop) (J : Nat → List (Option mV) → List mV → mS → Nat → Nat → Prop),
  (ms = true → xs0 = xs) → ab_xl ms xs S.1 ν → ab_cl l z xs0 Q J → (∀ p ∈ act, ab_acs J S.1.1.length ν p) → ab_cx xs S.1 ν → ab_Ls S.1.1.length ν S.2.2.1 Lc → ab_Vs S.1.1.length ν S.2.2.2.1 sc → ab_hp S.1.1.length ν S.2.2.2.2.1 σ → (∀ o ∈ outs, ab_zo xs S.1 ν J Q o) → J S.2.1 Lc sc σ S.2.2.2.2.2.1 S.2.2.2.2.2.2
def ab_SPok (l : Launch) (SP : ab_SP) : Prop := ∀ (j : Nat) (args : List ab_V) (C : ab_C) (H : ab_H) (outs : List ab_Q), SP j args C H = some outs → ∀ (xs : ab_X) (ν : ab_N) (avs : List mV) (σ : mS), ab_cx xs C ν → ab_Vs C.1.length ν args avs → ab_hp C.1.length ν H σ → ∀ Q : mX → mS → Prop, (∀ e ∈ outs, ∀ ν' x σ', ab_up xs C ν e.1 ν' → ab_xo e.1.1.length ν' e.2.1 x → ab_hp e.1.1.length ν' e.2.2 σ' → Q x σ') → m_ConI l j avs σ Q
theorem ab_xl.up {ms : Bool} (h : ab_xl ms xs C ν) (u : ab_up xs C ν C' ν') : ab_xl ms xs C' ν' := fun hm => by
  obtain ⟨z, h1, h2, h3⟩ := h hm
  exact ⟨z, h1, h2, u.I h3⟩
theorem ab_spk_ok {S : ab_S} {e : ab_E} {hi x : Int} (h : ab_cx xs S.1 ν) (he : ab_I S.1.1.length ν e x) : ∀ (m : Nat) (y : Int), y ≤ x → x ≤ hi → x < y + (m : Int) → ∃ S' ∈ ab_spk S e hi m y, ab_cx xs S'.1 ν ∧ S'.1.1.length = S.1.1.length ∧ S'.2 = S.2
  | 0, y, h1, _, h3 => by omega
  | m + 1, y, h1, h2, h3 => by
    have hb : ab_le y hi = true := by rw [ab_le_ok]; omega
    unfold ab_spk
    rw [hb]
    by_cases e1 : x = y
    · have g := ab_asm_ok (c := .eq) (f := (0, y)) (y := y) h he (ab_con h) e1
      exact ⟨_, List.mem_cons_self, g.1, g.2, rfl⟩
    · obtain ⟨S', g1, g2⟩ := ab_spk_ok h he m (y + 1) (by omega) h2 (by omega)
      exact ⟨S', List.mem_cons_of_mem _ g1, g2⟩
theorem ab_nume_ok {v : ab_V} {x : mV} {e : ab_E} (hv : ab_Vr n ν v x) (he : ab_nume v = some e) : ab_I n ν e (ν e.1 + e.2) := by
  rcases v with a | a | a | a
  · cases he
    obtain ⟨y, rfl, g⟩ := ab_Vi hv
    exact ⟨g.1, rfl⟩
  · cases he
    obtain ⟨y, rfl, g⟩ := ab_Vl hv
    exact ⟨g.1, rfl⟩
  · cases he
    obtain ⟨y, rfl, g⟩ := ab_Va hv
    exact ⟨g.1, rfl⟩
  · cases he
theorem ab_sp3_ok {S : ab_S} {e : ab_E} {x c : Int} (h : ab_cx xs S.1 ν) (he : ab_I S.1.1.length ν e x) : ∃ S' ∈ ab_sp3 S e c, ab_cx xs S'.1 ν ∧ S'.1.1.length = S.1.1.length ∧ S'.2 = S.2 := by
  have b := ab_iv_ok h.1 he
  unfold ab_sp3
  rcases Int.lt_trichotomy x c with g | g | g
  · have hb : ab_le c (ab_iv S.1.1 e).1 = false := by
      cases hb : ab_le c (ab_iv S.1.1 e).1 with
      | false => rfl
      | true => rw [ab_le_ok] at hb; omega
    rw [hb]
    have k := ab_asm_ok (c := .lt) (f := (0, c)) (y := c) h he (ab_con h) g
    exact ⟨_, List.mem_append_left _ List.mem_cons_self, k.1, k.2, rfl⟩
  · have hb : (ab_le (ab_iv S.1.1 e).1 c && ab_le c (ab_iv S.1.1 e).2) = true := by
      rw [Bool.and_eq_true, ab_le_ok, ab_le_ok]; omega
    rw [hb]
    have k := ab_asm_ok (c := .eq) (f := (0, c)) (y := c) h he (ab_con h) g
    exact ⟨_, List.mem_append_right _ (List.mem_append_left _ List.mem_cons_self), k.1, k.2, rfl⟩
  · have hb : ab_le (ab_iv S.1.1 e).2 c = false := by
      cases hb : ab_le (ab_iv S.1.1 e).2 c with
      | false => rfl
      | true => rw [ab_le_ok] at hb; omega
    rw [hb]
    have k := ab_asm_ok (c := .gt) (f := (0, c)) (y := c) h he (ab_con h) g
    exact ⟨_, List.mem_append_right _ (List.mem_append_right _ List.mem_cons_self), k.1, k.2, rfl⟩
theorem ab_sp1_ok {S : ab_S} {i : Nat × Option Int} (h : ab_cx xs S.1 ν) (hL : ab_Ls S.1.1.length ν S.2.2.1 Lc) : ∃ S' ∈ ab_sp1 i S, ab_cx xs S'.1 ν ∧ S'.1.1.length = S.1.1.length ∧ S'.2 = S.2 := by
  unfold ab_sp1
  cases hv : ab_ld S.2.2.1 i.1 with
  | none => exact ⟨S, List.mem_cons_self, h, rfl, rfl⟩
  | some v =>
    dsimp only
    cases he : ab_nume v with
    | none => exact ⟨S, List.mem_cons_self, h, rfl, rfl⟩
    | some e =>
      dsimp only
      obtain ⟨x, x1, x2⟩ := hL.ld hv
      have g := ab_nume_ok x2 he
      cases i.2 with
      | some c => exact ab_sp3_ok h g
      | none =>
        dsimp only
        cases hb : (ab_le ((ab_iv S.1.1 e).1 + 1) (ab_iv S.1.1 e).2 && ab_le (ab_iv S.1.1 e).2 ((ab_iv S.1.1 e).1 + 16)) with
        | false => exact ⟨S, List.mem_cons_self, h, rfl, rfl⟩
        | true =>
          rw [Bool.and_eq_true, ab_le_ok, ab_le_ok] at hb
          have b := ab_iv_ok h.1 g
          exact ab_spk_ok h g 17 (ab_iv S.1.1 e).1 (by omega) (by omega) (by omega)
theorem ab_spm_ok : ∀ {is : List (Nat × Option Int)} {r : List ab_S} {S : ab_S}, (∃ S' ∈ r, ab_cx xs S'.1 ν ∧ S'.1.1.length = S.1.1.length ∧ S'.2 = S.2) → ab_Ls S.1.1.length ν S.2.2.1 Lc → ∃ S' ∈ ab_spm is r, ab_cx xs S'.1 ν ∧ S'.1.1.length = S.1.1.length ∧ S'.2 = S.2
  | [], _, _, h, _ => h
  | i :: t, r, S, ⟨S1, g1, g2, g3, g4⟩, hL => by
    obtain ⟨S2, k1, k2, k3, k4⟩ := ab_sp1_ok (S := S1) (i := i) g2 (by rw [g3, g4]; exact hL)
    exact ab_spm_ok (is := t) (r := r.flatMap (ab_sp1 i)) (S := S) ⟨S2, List.mem_flatMap.mpr ⟨S1, g1, k1⟩, k2, k3.trans g3, k4.trans g4⟩ hL
end ABF
