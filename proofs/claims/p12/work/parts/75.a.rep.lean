/-! the replays -/
def ac_rc : ac_Ct := match ac_LB_6_0 with
  | ct :: _ => ct
  | [] => (0, [], [], none, [], [], none)
theorem ac_rcm : ac_rc ∈ ac_AB_6 := List.mem_append_left _ (show ac_rc ∈ ac_LB_6_0 from List.mem_cons_self)
def ac_WR : List ab_G := ac_rc.2.2.1
def ac_otB (o : ac_O) : Bool := Nat.beq o.2.1.1 0 && (Nat.beq o.2.2.1.1 0 && (!(Nat.beq o.1 1) && (!(Nat.beq o.1 11) && (ab_le ((o.2.1.2.toNat : Int) + 1) (ad_cA o.1) && (Nat.blt o.1 22 && ac_WR.all (fun b => !(Nat.beq b.1 o.1 && (Nat.ble b.2.1 o.2.1.2.toNat && (Nat.ble o.2.1.2.toNat b.2.2.1 && (Nat.ble b.2.2.2.1 o.2.2.1.2.toNat && Nat.ble o.2.2.1.2.toNat b.2.2.2.2.1))))))))))
theorem ac_otA : ac_OT.all ac_otB = true := by decide +kernel
theorem ac_subKB : ac_subK ac_KB ac_K0 = true := by decide +kernel
section ACP
variable {l : Launch} {ν : ab_N} {σ σ' : mS}
theorem ac_ovS (h0 : ν 0 = 0) (hs : ∀ o ∈ ac_OT, m_get σ' o.1 o.2.1.2.toNat o.2.2.1.2.toNat = m_get σ o.1 o.2.1.2.toNat o.2.2.1.2.toNat) (hO : ∀ o ∈ ac_OT, ac_ov 16 ν σ o) : ∀ o ∈ ac_OT, ac_ov 16 ν σ' o := by
  intro o ho
  obtain ⟨a1, a2, a3⟩ := hO o ho
  refine ⟨a1, a2, fun i k hi hk => ?_⟩
  have g := List.all_eq_true.mp ac_otA o ho
  unfold ac_otB at g
  simp only [Bool.and_eq_true] at g
  have e1 := Nat.eq_of_beq_eq_true g.1
  have e2 := Nat.eq_of_beq_eq_true g.2.1
  have hi2 := hi
  have hk2 := hk
  rw [e1, h0] at hi2
  rw [e2, h0] at hk2
  have d1 : i = o.2.1.2.toNat := by omega
  have d2 : k = o.2.2.1.2.toNat := by omega
  have s := hs o ho
  rw [← d1, ← d2] at s
  rw [s]
  exact a3 i k hi hk
theorem ac_otR (hf : ac_fr ac_WR σ σ') : ∀ o ∈ ac_OT, m_get σ' o.1 o.2.1.2.toNat o.2.2.1.2.toNat = m_get σ o.1 o.2.1.2.toNat o.2.2.1.2.toNat := by
  intro o ho
  have g := List.all_eq_true.mp ac_otA o ho
  unfold ac_otB at g
  simp only [Bool.and_eq_true, Bool.not_eq_true'] at g
  obtain ⟨-, -, g1, -, -, -, g2⟩ := g
  rcases hf.2.2.2 o.1 o.2.1.2.toNat o.2.2.1.2.toNat (fun z => by rw [z.1] at g1; cases g1) with e | ⟨b, b1, ⟨f1, f2, f3, f4, f5⟩, -⟩
  · exact e
  · have q := List.all_eq_true.mp g2 b b1
    have q2 : (Nat.beq b.1 o.1 && (Nat.ble b.2.1 o.2.1.2.toNat && (Nat.ble o.2.1.2.toNat b.2.2.1 && (Nat.ble b.2.2.2.1 o.2.2.1.2.toNat && Nat.ble o.2.2.1.2.toNat b.2.2.2.2.1)))) = true := by
      simp only [Bool.and_eq_true, Nat.ble_eq]
      exact ⟨by rw [f1]; exact Nat.beq_refl _, f2, f3, f4, f5⟩
    rw [q2] at q
    cases q
theorem ac_otD (hf : ad_fr σ σ') : ∀ o ∈ ac_OT, m_get σ' o.1 o.2.1.2.toNat o.2.2.1.2.toNat = m_get σ o.1 o.2.1.2.toNat o.2.2.1.2.toNat := by
  intro o ho
  have g := List.all_eq_true.mp ac_otA o ho
  unfold ac_otB at g
  simp only [Bool.and_eq_true, Bool.not_eq_true', ab_le_ok, Nat.blt_eq] at g
  obtain ⟨-, -, g1, g2, g3, g4, -⟩ := g
  have c := hf.1 o.1 g4 (fun z => by rw [z] at g1; cases g1)
  exact hf.2.2.2.2 o.1 _ _ (Or.inr (by omega)) (fun z => by rw [z.1] at g2; cases g2)
/-- what is held behind a replay -/
theorem ac_repEnd (h0 : ν 0 = 0) (hp : ac_hp ac_kT σ 16 ν ac_HT σ) (hK : ac_KK ac_KB σ') (hc : σ'.1 1 = σ.1 1) (hs : ∀ o ∈ ac_OT, m_get σ' o.1 o.2.1.2.toNat o.2.2.1.2.toNat = m_get σ o.1 o.2.1.2.toNat o.2.2.1.2.toNat) : ac_hp ac_kT σ' 16 ν ac_HT σ' := by
  refine ⟨ac_subK_ok hK ac_subKB, ac_fr.rf, ?_, ac_ovS h0 hs hp.2.2.2.1, fun g hg => by cases hg⟩
  have g : ab_I 16 ν (3, 0) (σ.1 1 : Int) := hp.2.2.1
  show ab_I 16 ν (3, 0) (σ'.1 1 : Int)
  rw [hc]
  exact g
theorem ac_repB (hl : l.stackTraces = false) (hp : ac_hp ac_kT σ 16 ν ac_HT σ) (h0 : ν 0 = 0) (hB : ac_KK ac_KB σ) {Q : mX → mS → Prop} (hQ : ∀ v σ', ac_hp ac_kT σ' 16 ν ac_HT σ' → ac_KK ac_KB σ' → Q (.inl (some (.inl v))) σ') : m_ConI l 157 [.inr (.inr (some (11, 0)))] σ Q := by
  refine ac_oB_6 hl ac_rc ac_rcm [.inr (.inr (some (11, 0)))] σ ⟨⟨rfl, rfl, rfl, Int.le_refl _, Int.le_refl _⟩, trivial⟩ hB trivial Q (fun x σ' hK hf hc hr => ?_)
  have hE := ac_repEnd h0 hp hK hc (ac_otR hf)
  cases x with
  | inr e => exact absurd hr (fun z => by cases z)
  | inl r =>
    obtain ⟨⟨t, t1, t2⟩, -⟩ := hr
    have t1 : some (some (0, 0, 0, 1, 0, 0)) = some t := t1
    cases t1
    cases r with
    | none => exact t2.elim
    | some w =>
      rcases w with y | y | y
      · exact hQ y σ' hE hK
      · cases t2.1
      · cases y with
        | none => cases t2.1
        | some p => cases t2.1
end ACP
