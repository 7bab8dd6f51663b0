/-! all ends of the loop's first stretch; the loop; the way to it -/
section ABY
variable {xs : ab_X} {C : ab_C} {ν : ab_N} {J : ab_J} {l : Launch} {Lc : List (Option mV)} {σ : mS}
theorem ab_SPB_ok (hl : l.stackTraces = false) : ab_SPok l (ab_SPx [ab_eB0, ab_eB1]) := ab_SPx_ok hl (ab_SP0_ok l) (fun e he => by
  rcases List.mem_cons.mp he with rfl | he
  · exact ab_entB0
  · rcases List.mem_cons.mp he with rfl | he
    · exact ab_entB1
    · cases he)
theorem ab_SPA_ok (hl : l.stackTraces = false) : ab_SPok l (ab_SPx [ab_eA0, ab_eA1]) := ab_SPx_ok hl (ab_SP0_ok l) (fun e he => by
  rcases List.mem_cons.mp he with rfl | he
  · exact ab_entA0
  · rcases List.mem_cons.mp he with rfl | he
    · exact ab_entA1
    · cases he)
theorem ab_outs_ok (hl : l.stackTraces = false) {os : List ab_Z} (ho : ab_outs = some os) (hlen : os.length = 36) (hJ : ab_cl l ab_main xs ab_Qt J) (hxl : ab_xl true xs C ν) : ∀ z ∈ os, ab_zo xs C ν J ab_Qt z := by
  intro z hz
  obtain ⟨n, hn⟩ := List.getElem?_of_mem hz
  have hlt : n < 36 := by
    rw [← hlen]
    exact (List.getElem?_eq_some_iff.mp hn).1
  match n, hn, hlt with
  | 0, hn, _ => exact ab_zo_nth hl ho hn ab_case_0 hJ hxl
  | 1, hn, _ => exact ab_zo_nth hl ho hn ab_case_1 hJ hxl
  | 2, hn, _ => exact ab_zo_nth hl ho hn ab_case_2 hJ hxl
  | 3, hn, _ => exact ab_zo_tl hl ho hn ab_case_3 hJ hxl
  | 4, hn, _ => exact ab_zo_tl hl ho hn ab_case_4 hJ hxl
  | 5, hn, _ => exact ab_zo_nth hl ho hn ab_case_5 hJ hxl
  | 6, hn, _ => exact ab_zo_nth hl ho hn ab_case_6 hJ hxl
  | 7, hn, _ => exact ab_zo_tl hl ho hn ab_case_7 hJ hxl
  | 8, hn, _ => exact ab_zo_nth hl ho hn ab_case_8 hJ hxl
  | 9, hn, _ => exact ab_zo_nth hl ho hn ab_case_9 hJ hxl
  | 10, hn, _ => exact ab_zo_nth hl ho hn ab_case_10 hJ hxl
  | 11, hn, _ => exact ab_zo_nth hl ho hn ab_case_11 hJ hxl
  | 12, hn, _ => exact ab_zo_nth hl ho hn ab_case_12 hJ hxl
  | 13, hn, _ => exact ab_zo_nth hl ho hn ab_case_13 hJ hxl
  | 14, hn, _ => exact ab_zo_nth hl ho hn ab_case_14 hJ hxl
  | 15, hn, _ => exact ab_zo_nth hl ho hn ab_case_15 hJ hxl
  | 16, hn, _ => exact ab_zo_nth hl ho hn ab_case_16 hJ hxl
  | 17, hn, _ => exact ab_zo_nth hl ho hn ab_case_17 hJ hxl
  | 18, hn, _ => exact ab_zo_nth hl ho hn ab_case_18 hJ hxl
  | 19, hn, _ => exact ab_zo_nth hl ho hn ab_case_19 hJ hxl
  | 20, hn, _ => exact ab_zo_nth hl ho hn ab_case_20 hJ hxl
  | 21, hn, _ => exact ab_zo_nth hl ho hn ab_case_21 hJ hxl
  | 22, hn, _ => exact ab_zo_nth hl ho hn ab_case_22 hJ hxl
  | 23, hn, _ => exact ab_zo_nth hl ho hn ab_case_23 hJ hxl
  | 24, hn, _ => exact ab_zo_nth hl ho hn ab_case_24 hJ hxl
  | 25, hn, _ => exact ab_zo_nth hl ho hn ab_case_25 hJ hxl
  | 26, hn, _ => exact ab_zo_nth hl ho hn ab_case_26 hJ hxl
  | 27, hn, _ => exact ab_zo_nth hl ho hn ab_case_27 hJ hxl
  | 28, hn, _ => exact ab_zo_nth hl ho hn ab_case_28 hJ hxl
  | 29, hn, _ => exact ab_zo_nth hl ho hn ab_case_29 hJ hxl
  | 30, hn, _ => exact ab_zo_nth hl ho hn ab_case_30 hJ hxl
  | 31, hn, _ => exact ab_zo_nth hl ho hn ab_case_31 hJ hxl
  | 32, hn, _ => exact ab_zo_nth hl ho hn ab_case_32 hJ hxl
  | 33, hn, _ => exact ab_zo_nth hl ho hn ab_case_33 hJ hxl
  | 34, hn, _ => exact ab_zo_nthX hl (ab_SPB_ok hl) ho hn ab_case_34 hJ hxl
  | 35, hn, _ => exact ab_zo_nth hl ho hn ab_case_35 hJ hxl
  | n + 36, _, hlt => exact absurd hlt (by omega)
theorem ab_loop (hl : l.stackTraces = false) (hJ : ab_cl l ab_main xs ab_Qt J) (hxl : ab_xl true xs ab_C0 ν) (h : ab_cx xs ab_C0 ν) (hL : ab_Ls 2 ν ab_L0m Lc) (hp : ab_hp 2 ν ab_HB σ) : J 23 Lc [] σ 414 251731 := by
  cases ho : ab_outs with
  | none =>
    have h36 := ab_outs_len
    rw [ho] at h36
    cases h36
  | some os =>
    have h36 := ab_outs_len
    rw [ho] at h36
    have hlen := Nat.eq_of_beq_eq_true h36
    have hg : ab_go ab_SP0 ab_LP ab_PL ab_AB ab_cutS 60 true 999 ab_main [] ab_SB = some os := ho
    exact ab_go_ok hl (ab_SP0_ok l) 60 true 999 ab_main [] ab_SB os hg xs xs ν Lc [] σ ab_Qt J (fun _ => rfl) hxl hJ (fun p hp => by cases hp) h hL trivial hp (ab_outs_ok hl ho hlen hJ hxl)
theorem ab_begin (hl : l.stackTraces = false) (hJ : ab_cl l ab_main xs ab_Qt J) (hxl : ab_xl true xs ab_C0 ν) (h : ab_cx xs ab_C0 ν) (hL : ab_Ls 2 ν ab_S0.2.2.1 Lc) (hp : ab_hp 2 ν ab_H0 σ) : J 0 Lc [] σ 0 0 := by
  have hA := ab_stA
  cases ho : ab_outA with
  | none => rw [ho] at hA; cases hA
  | some os =>
    rw [ho] at hA
    dsimp only at hA
    have hg : ab_go (ab_SPx [ab_eA0, ab_eA1]) ab_LP ab_PL ab_AB ab_cutA 4000 true 999 ab_main [] ab_S0 = some os := ho
    refine ab_go_ok hl (ab_SPA_ok hl) 4000 true 999 ab_main [] ab_S0 os hg xs xs ν Lc [] σ ab_Qt J (fun _ => rfl) hxl hJ (fun p hp => by cases hp) h hL trivial hp (fun z hz => ?_)
    have hz2 := List.all_eq_true.mp hA z hz
    cases z with
    | inl e => cases hz2
    | inr S =>
      have hz3 : ab_ckA S = true := hz2
      unfold ab_ckA at hz3
      simp only [Bool.and_eq_true] at hz3
      obtain ⟨c1, c2, c3, c4, c5, c6, c7⟩ := hz3
      intro ν' Lc' sc' σ' u hL' hs' hp'
      have q1 := Nat.eq_of_beq_eq_true c1
      have q5 := Nat.eq_of_beq_eq_true c5
      have q6 := Nat.eq_of_beq_eq_true c6
      have q7 := Nat.eq_of_beq_eq_true c7
      have e3 := List.isEmpty_iff.mp c3
      rw [e3] at hs'
      have e4 : sc' = [] := by
        cases sc' with
        | nil => rfl
        | cons a t => exact hs'.elim
      subst e4
      have hB := ab_imp2_ok u.1 hp' c4
      rw [q7] at hB hL'
      obtain ⟨d1, d2⟩ := ab_ckL_at c2
      have hL2 : ab_Ls 2 ν' ab_L0m Lc' := ⟨hL'.1.trans d1, fun i v hv => hL'.2 i v (d2 i v hv)⟩
      have hx : ab_ex 2 ν ν' := u.2.1
      have hxl2 : ab_xl true xs ab_C0 ν' := fun hm => by
        obtain ⟨z, a1, a2, a3⟩ := hxl hm
        exact ⟨z, a1, a2, a3.ex hx (Nat.le_refl _)⟩
      have main := ab_loop hl hJ hxl2 (h.ex hx) hL2 hB
      rw [q1, q5, q6]
      exact main
end ABY
