/-! the chain: from the entry to the law's loop, from there to the answer 1 -/
def ab_Qt : mX → mS → Prop := fun x _ => x = .inl (some (.inl 1))
abbrev ab_J : Type := Nat → List (Option mV) → List mV → mS → Nat → Nat → Prop
theorem ab_fin_ok {o : Option (List ab_Z)} (h : ab_fin o = true) : ∃ l, o = some l ∧ ∀ z ∈ l, ab_isT z = true := by
  unfold ab_fin at h
  cases o with
  | none => cases h
  | some l => exact ⟨l, rfl, fun z hz => List.all_eq_true.mp h z hz⟩
section ABZ
variable {xs : ab_X} {C : ab_C} {ν : ab_N} {J : ab_J} {l : Launch} {SP : ab_SP} {K : ab_H} {Lc : List (Option mV)} {sc : List mV} {σ : mS}
theorem ab_isT_ok {z : ab_Z} (h : ab_isT z = true) : ab_zo xs C ν J ab_Qt z := by
  unfold ab_isT at h
  cases z with
  | inr S => cases h
  | inl e =>
    obtain ⟨C', o, H'⟩ := e
    dsimp only at h
    cases o with
    | inr x => cases h
    | inl o =>
      cases o with
      | none => cases h
      | some v =>
        rcases v with v | v
        · have e1 := ab_eE_ok h
          subst e1
          intro ν' x σ' u hx hp
          dsimp only at u hx
          cases x with
          | inr y => exact hx.elim
          | inl y =>
            cases y with
            | none => exact hx.elim
            | some w =>
              have hx : ab_Vr C'.1.length ν' (.inl (0, 1)) w := hx
              obtain ⟨y, rfl, g⟩ := ab_Vi hx
              have g2 : y.toInt = ν' 0 + 1 := g.2
              rw [u.1.1.1] at g2
              have g3 : y = 1 := Int32.toInt_inj.mp (by rw [g2]; decide)
              rw [g3]
              rfl
        · cases h
theorem ab_runS (hl : l.stackTraces = false) (hSP : ab_SPok l SP) {S : ab_S} (hf : ab_fin (ab_go SP ab_LP ab_PL ab_AB ab_nc 4000 true 999 ab_main [] (S.1, S.2.1, S.2.2.1, S.2.2.2.1, K, S.2.2.2.2.2)) = true) (hJ : ab_cl l ab_main xs ab_Qt J) (hxl : ab_xl true xs S.1 ν) (h : ab_cx xs S.1 ν) (hL : ab_Ls S.1.1.length ν S.2.2.1 Lc) (hst : ab_Vs S.1.1.length ν S.2.2.2.1 sc) (hp : ab_hp S.1.1.length ν K σ) : J S.2.1 Lc sc σ S.2.2.2.2.2.1 S.2.2.2.2.2.2 := by
  obtain ⟨outs, g1, g2⟩ := ab_fin_ok hf
  exact ab_go_ok hl hSP 4000 true 999 ab_main [] (S.1, S.2.1, S.2.2.1, S.2.2.2.1, K, S.2.2.2.2.2) outs g1 xs xs ν Lc sc σ ab_Qt J (fun _ => rfl) hxl hJ (fun p hp => by cases hp) h hL hst hp (fun z hz => ab_isT_ok (g2 z hz))
theorem ab_zo_run (hl : l.stackTraces = false) {z : ab_Z} (hr : ab_run K z = true) (hJ : ab_cl l ab_main xs ab_Qt J) (hxl : ab_xl true xs C ν) : ab_zo xs C ν J ab_Qt z := by
  cases z with
  | inl e => exact ab_isT_ok hr
  | inr S =>
    unfold ab_run at hr
    dsimp only at hr
    rw [Bool.and_eq_true] at hr
    exact fun ν' Lc' sc' σ' u hL hs hp => ab_runS hl (ab_SP0_ok l) hr.2 hJ (hxl.up u) u.1 hL hs (ab_imp_ok u.1 hp hr.1)
theorem ab_zo_runX (hl : l.stackTraces = false) (hSP : ab_SPok l SP) {z : ab_Z} (hr : ab_runX SP K z = true) (hJ : ab_cl l ab_main xs ab_Qt J) (hxl : ab_xl true xs C ν) : ab_zo xs C ν J ab_Qt z := by
  cases z with
  | inl e => exact ab_isT_ok hr
  | inr S =>
    unfold ab_runX at hr
    dsimp only at hr
    rw [Bool.and_eq_true] at hr
    exact fun ν' Lc' sc' σ' u hL hs hp => ab_runS hl hSP hr.2 hJ (hxl.up u) u.1 hL hs (ab_imp2_ok u.1 hp hr.1)
theorem ab_zo_nth (hl : l.stackTraces = false) {n : Nat} {os : List ab_Z} {z : ab_Z} (ho : ab_outs = some os) (hz : os[n]? = some z) (hr : ab_nth n K = true) (hJ : ab_cl l ab_main xs ab_Qt J) (hxl : ab_xl true xs C ν) : ab_zo xs C ν J ab_Qt z := by
  unfold ab_nth at hr
  rw [ho] at hr
  dsimp only at hr
  rw [hz] at hr
  exact ab_zo_run hl hr hJ hxl
theorem ab_zo_nthX (hl : l.stackTraces = false) (hSP : ab_SPok l SP) {n : Nat} {os : List ab_Z} {z : ab_Z} (ho : ab_outs = some os) (hz : os[n]? = some z) (hr : ab_nthX SP n K = true) (hJ : ab_cl l ab_main xs ab_Qt J) (hxl : ab_xl true xs C ν) : ab_zo xs C ν J ab_Qt z := by
  unfold ab_nthX at hr
  rw [ho] at hr
  dsimp only at hr
  rw [hz] at hr
  exact ab_zo_runX hl hSP hr hJ hxl
theorem ab_zo_tl (hl : l.stackTraces = false) {n : Nat} {ps : List (Nat × Int)} {os : List ab_Z} {z : ab_Z} (ho : ab_outs = some os) (hz : os[n]? = some z) (hr : ab_tl n ps K 0 = true) (hJ : ab_cl l ab_main xs ab_Qt J) (hxl : ab_xl true xs C ν) : ab_zo xs C ν J ab_Qt z := by
  unfold ab_tl ab_subs at hr
  rw [ho] at hr
  dsimp only at hr
  rw [hz] at hr
  cases z with
  | inl e => cases hr
  | inr S =>
    dsimp only [List.drop_zero] at hr
    intro ν' Lc' sc' σ' u hL hs hp
    have hxl' := hxl.up u
    obtain ⟨y, y1, -, -⟩ := hxl' rfl
    obtain ⟨ν2, u2⟩ := ab_l8_ok y1 (js := [1, 2, 3, 4, 5, 6, 7]) u.1
    obtain ⟨S', k1, k2, k3, k4⟩ := ab_sM_ok (ps := ps) (r := [ab_p8 S]) (S := ab_p8 S) ⟨ab_p8 S, List.mem_cons_self, u2.1, rfl, rfl⟩
    have hb := List.all_eq_true.mp hr S' k1
    obtain ⟨C', S'⟩ := S'
    have k4 : S' = S.2 := k4
    subst k4
    have k3 : C'.1.length = (ab_l8 [1, 2, 3, 4, 5, 6, 7] S.1).1.length := k3
    have k2 : ab_cx xs C' ν2 := k2
    have hxl2 := hxl'.up u2
    have hxl3 : ab_xl true xs C' ν2 := fun hm => by
      obtain ⟨z, a1, a2, a3⟩ := hxl2 hm
      exact ⟨z, a1, a2, by rw [k3]; exact a3⟩
    unfold ab_runX at hb
    dsimp only at hb
    rw [Bool.and_eq_true] at hb
    have hle : S.1.1.length ≤ C'.1.length := by rw [k3]; exact u2.2.2
    have hL2 : ab_Ls C'.1.length ν2 S.2.2.1 Lc' := hL.ex u2.2.1 hle
    have hs2 : ab_Vs C'.1.length ν2 S.2.2.2.1 sc' := hs.ex u2.2.1 hle
    have hp2 : ab_hp C'.1.length ν2 S.2.2.2.2.1 σ' := hp.ex u2.2.1 hle
    exact ab_runS (S := (C', S.2)) hl (ab_SP0_ok l) hb.2 hJ hxl3 k2 hL2 hs2 (ab_imp2_ok k2 hp2 hb.1)
end ABZ
