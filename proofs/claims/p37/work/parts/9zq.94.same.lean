/-! a hall is the same as itself, and so as its twin -/
def is_LP (j pc : Nat) : Option ac_An :=
  bif Nat.beq j 17 && Nat.beq pc 30 then some ([], true, [(3, (0, 0, 0, 120, 0, 0)), (2, (0, 0, 1, 1, 0, 0))], [], [], none, none) else
  bif Nat.beq j 49 && Nat.beq pc 171 then some ([], true, [(3, (0, 0, 0, 200, 0, 0)), (2, (0, 0, 1, 1, 0, 0))], [], [], none, none) else none
def is_args : List ab_V := [.inr (.inr (.inl (4, (0, 0), (0, 1)))), .inr (.inr (.inl (4, (0, 0), (0, 1))))]
def is_ckE (e : ac_Q) : Bool := match e.2.1 with
  | .inl (some v) => ab_in e.1 v (ac_TI 1 1)
  | _ => false
def is_out : Option (List ac_Q) := ar_ret ac_SP0 (ar_go sm_gb (ac_K0, []) ac_SP0 is_LP (fun _ _ => []) ac_nc 4000) 60 is_args ac_C1 (none, [], [])
theorem is_t : (match is_out with
  | some outs => outs.all is_ckE
  | none => false) = true := by decide +kernel
theorem is_self {σ : mS} (hK : ac_KK ac_K0 σ) : ∃ σ', ev_run sm_G 60 [.inr (.inr (some (4, 0))), .inr (.inr (some (4, 0)))] σ (.inl (some (.inl 1))) σ' := by
  have ht := is_t
  cases ho : is_out with
  | none => rw [ho] at ht; cases ht
  | some outs =>
  rw [ho] at ht
  dsimp only at ht
  have hv : ab_Vs ac_C1.1.length (fun _ => 0) is_args [.inr (.inr (some (4, 0))), .inr (.inr (some (4, 0)))] := ⟨⟨by decide, by decide, rfl, rfl, rfl⟩, ⟨by decide, by decide, rfl, rfl, rfl⟩, trivial⟩
  have hp : ac_hp (ac_K0, []) σ ac_C1.1.length (fun _ => 0) (none, [], []) σ := ⟨hK, ac_fr.rf, rfl, (fun o ho => by cases ho), (fun g hg => by cases hg)⟩
  obtain ⟨x, σ', h1, h2⟩ := ar_ret_ok ev_CC_rule (ar_SP0_ok (ev_CC sm_G) _) (ar_go_ok ev_CC_rule (sm_gb_ok _) (ar_SP0_ok (ev_CC sm_G) _) 4000) ho ac_cx1 hv hp (Q := fun x _ => x = .inl (some (.inl 1))) (fun e he ν' x σ' u hxs hσ => by
    have hq := List.all_eq_true.mp ht e he
    unfold is_ckE at hq
    obtain ⟨eC, eo, eH⟩ := e
    dsimp only at hq hxs hσ u
    rcases eo with (_ | w) | b
    · cases hq
    · cases x with
      | inr _ => exact hxs.elim
      | inl r =>
        cases r with
        | none => exact hxs.elim
        | some v =>
          obtain ⟨y, y1, y2, y3⟩ := ac_TI_ok (ab_in_ok u.1 (show ab_Vr _ _ w v from hxs) hq)
          subst y1
          have : y = 1 := Int32.toInt_inj.mp (by show y.toInt = 1; omega)
          rw [this]
    · cases hq)
  subst h2
  exact ⟨σ', h1⟩
theorem is_twin {σ : mS} (hK : ac_KK ac_K0 σ) (hr : sm_hr none hs_E σ σ) : ev_run sm_all 60 [.inr (.inr (some (4, 1))), .inr (.inr (some (4, 0)))] σ (.inl (some (.inl 1))) σ := by
  obtain ⟨σ', f, h⟩ := is_self hK
  obtain ⟨v, h1, h2, h3, -⟩ := tw_lock hr f 60 [.inr (.inr (some (4, 1))), .inr (.inr (some (4, 0)))] _ _ h rfl (fun v hv => by
    have g : ∀ i, i < 2 → gV (tw_g σ) (.inr (.inr (some (4, i)))) := fun i hi => ⟨Or.inl (by show i / 2 < 1; omega), fun z => by rcases z with z | z | z <;> cases z⟩
    rcases List.mem_cons.mp hv with rfl | hv
    · exact g 1 (by decide)
    · have e := List.mem_singleton.mp hv
      subst e
      exact g 0 (by decide))
  refine ⟨f, ?_⟩
  have e : v.map (rn tw_2) = some (.inl 1) := by
    cases v with
    | none => cases h1
    | some w =>
      rcases w with a | a | _ | q
      · have e1 : (1 : Int32) = a := by
          have h1 := Sum.inl.inj h1
          have h1 : (some (.inl 1) : Option mV) = some (.inl a) := h1
          exact Sum.inl.inj (Option.some.inj h1)
        rw [← e1]
        rfl
      · have h1 : (some (.inl 1) : Option mV) = some (.inr (.inl a)) := Sum.inl.inj h1
        cases h1
      · have h1 : (some (.inl 1) : Option mV) = some (.inr (.inr none)) := Sum.inl.inj h1
        cases h1
      · have h1 : (some (.inl 1) : Option mV) = some (.inr (.inr (tw_1 q))) := Sum.inl.inj h1
        cases h1
  rw [← e]
  exact h3
