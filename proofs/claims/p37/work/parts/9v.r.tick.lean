/-! calls are reviewed; time passes -/
def CL : List (Nat × Nat) := [(2, 5), (2, 8), (2, 9), (2, 10), (6, 2), (6, 3), (6, 4), (6, 6), (6, 9), (6, 10), (8, 1), (8, 2), (8, 4), (8, 5), (8, 6), (8, 8), (10, 0), (10, 1), (10, 2), (10, 3), (10, 4), (10, 5), (10, 6), (10, 7), (10, 8), (10, 9), (14, 0)]
theorem CI_fl {n : Int} {L : Nat → Nat → Bool} {σ σ' : mS} (F : fw_e L σ σ') (h : CI n σ) (hl : fl σ') (c : (CL.all (fun q => fwh L q.1 q.2)) = true) : CI n σ' := by
  have q : ∀ a b, (a, b) ∈ CL → fwh L a b = true := fun a b h => List.all_eq_true.mp c (a, b) h
  obtain ⟨nn, k2, k3, k4, k5, k6, a1, a2, a3, a4, a5, a6, a7, a8, a9⟩ := h
  have ei : ∀ {c i k : Nat}, (c, k) ∈ CL → m_i σ' c i k = m_i σ c i k := fun h => (F.2 _ _ _ (q _ _ h)).1
  have el : ∀ {c i k : Nat}, (c, k) ∈ CL → m_l σ' c i k = m_l σ c i k := fun h => (F.2 _ _ _ (q _ _ h)).2.1
  have tce : tc σ' = tc σ := congrArg Int32.toInt (ei (by decide))
  refine ⟨nn, tO_fw F k2 ?_, pO_fw F k3 ?_, hl, sl_of k5 (fun m => ei (by decide)) (fun m => ei (by decide)) (F.2 _ _ _ (q 2 9 (by decide))).2.2, by rw [ei (by decide), nF_of (fun m => ei (by decide))]; exact k6, fun j hj => ?_, ?_, fun i hi => by rw [el (by decide)]; exact a3 i hi, by rw [cc_of (fun i => el (by decide)), el (by decide)]; exact a4, fun i hi => by rw [el (by decide)]; exact a5 i hi, fun i b1 hi => by rw [el (by decide)]; exact a6 i b1 hi, by rw [el (by decide), nSt_of (fun i => ei (by decide))]; exact a7, fun t ht' => ?_, fun i b1 b2 => ?_⟩
  · rw [q 2 5 (by decide), q 8 6 (by decide)]
    simp only [Bool.true_and]
    refine List.all_eq_true.mpr (fun k hk => q 10 k ?_)
    simp only [List.mem_cons, List.mem_nil_iff, or_false] at hk
    rcases hk with rfl | rfl | rfl | rfl | rfl | rfl | rfl | rfl <;> decide
  · rw [q 8 1 (by decide), q 8 2 (by decide), q 8 4 (by decide), q 8 5 (by decide), q 8 6 (by decide)]; rfl
  · have x := a1 j hj
    have y : pv σ' j 6 = pv σ j 6 := congrArg Int32.toInt (ei (by decide))
    rw [SP_fw F (q 14 0 (by decide)), y, tce]
    exact x
  · rw [CS_fw F (q 6 2 (by decide)), tce]; exact a2
  · rw [tce] at ht'
    have x := a8 t ht'
    unfold fB at x ⊢
    rw [el (by decide), el (by decide)]; exact x
  · have x : mi6 σ' i 6 = mi6 σ i 6 := congrArg Int32.toInt (ei (by decide))
    rw [x]; exact a9 i b1 b2
/-- where members' marks too are not touched -/
theorem CI_fw {n : Int} {L : Nat → Nat → Bool} {σ σ' : mS} (F : fw_e L σ σ') (h : CI n σ) (c : ((CL.all (fun q => fwh L q.1 q.2)) && fwh L 6 7) = true) : CI n σ' := by
  rw [Bool.and_eq_true] at c
  have q : ∀ a b, (a, b) ∈ CL → fwh L a b = true := fun a b h => List.all_eq_true.mp c.1 (a, b) h
  refine CI_fl F h (fl_of h.2.2.2.1 (fun m => (F.2 6 m 7 c.2).1) (fun m => (F.2 6 m 9 (q 6 9 (by decide))).1) (fun m => (F.2 6 m 10 (q 6 10 (by decide))).1) (fun m => (F.2 6 m 3 (q 6 3 (by decide))).2.1) (fun m j _ _ _ _ z => ?_)) c.1
  have e : fwh L 14 j = fwh L 14 0 := by unfold fwh; rw [if_neg (by decide), if_neg (by decide)]
  show (m_l σ' 14 m j).toInt = 0
  rw [(F.2 14 m j (by rw [e]; exact q 14 0 (by decide))).2.1]
  exact z
theorem q42_s {σ : mS} : ∀ n (u3 : Int32) (τ σ' : mS), Q42_10 (Int32.ofInt 5) n u3 τ σ' → 0 ≤ u3.toInt → u3.toInt ≤ 5 → fw_e (wl [(6, 7), (6, 8)]) σ τ ∧ fl τ → fw_e (wl [(6, 7), (6, 8)]) σ σ' ∧ fl σ' := by
  intro n
  induction n with
  | zero => intro u3 τ σ' h; exact h.elim
  | succ n IH =>
    intro u3 τ σ' h p0 p5 hI
    have h : B42_10 (Int32.ofInt 5) (Q42_10 (Int32.ofInt 5) n) u3 τ σ' := h
    obtain ⟨I1, I2⟩ := hI
    have i5 : (Int32.ofInt 5).toInt = 5 := by decide
    have one := i_1
    have zer := i_0
    have core : ∀ (σX : mS) (v : Int32), u3.toInt < 5 → fw_e (wl [(6, 7), (6, 8)]) τ σX → (∀ i, m_i σX 6 i 7 = if i = u3.toNatClampNeg + 1 then v else m_i τ 6 i 7) → (v = Int32.ofInt 0 ∨ v = Int32.ofInt 1 ∧ mi6 τ (u3.toNatClampNeg + 1) 9 = 0) → Q42_10 (Int32.ofInt 5) n (u3 + Int32.ofInt 1) σX σ' → fw_e (wl [(6, 7), (6, 8)]) σ σ' ∧ fl σ' := by
      intro σX v hl FX hX hv h
      have e1 : (u3 + Int32.ofInt 1).toInt = u3.toInt + 1 := i_inc p0 (by omega)
      refine IH _ _ _ h (by omega) (by omega) ⟨I1.tr FX, fun m b1 b2 => ?_⟩
      obtain ⟨f1, f2, f3, f4, f5, f6, f7⟩ := I2 m b1 b2
      have w9 : mi6 σX m 9 = mi6 τ m 9 := congrArg Int32.toInt (FX.2 6 m 9 rfl).1
      have w10 : mi6 σX m 10 = mi6 τ m 10 := congrArg Int32.toInt (FX.2 6 m 10 rfl).1
      have p14 : ∀ i j, m_l σX 14 i j = m_l τ 14 i j := fun i j => (FX.2 14 i j (by unfold fwh; rw [if_neg (by decide)]; rfl)).2.1
      unfold fl1
      rw [w9, w10, (FX.2 6 m 3 rfl).2.1]
      refine ⟨?_, f2, f3, f4, ?_, fun z j hj => by show (m_l σX 14 m j).toInt = 0; rw [p14]; exact f6 z j hj, f7⟩
      · show (m_i σX 6 m 7).toInt = 0 ∨ (m_i σX 6 m 7).toInt = 1
        rw [hX]
        by_cases q : m = u3.toNatClampNeg + 1
        · rw [if_pos q]
          rcases hv with e | ⟨e, _⟩ <;> rw [e]
          · exact Or.inl zer
          · exact Or.inr one
        · rw [if_neg q]; exact f1
      · intro z
        show (m_i σX 6 m 7).toInt = 0
        rw [hX]
        by_cases q : m = u3.toNatClampNeg + 1
        · rw [if_pos q]
          rcases hv with e | ⟨e, e9⟩
          · rw [e]; exact zer
          · rw [← q, z] at e9; cases e9
        · rw [if_neg q]; exact f5 z
    have s7 : ∀ (β : mS) (v : Int32), fw_e (wl [(6, 7), (6, 8)]) τ β → (∀ i, m_i β 6 i 7 = m_i τ 6 i 7) → fw_e (wl [(6, 7), (6, 8)]) τ (m_set β 6 (u3.toNatClampNeg + 1) 7 (.inl v)) ∧ ∀ i, m_i (m_set β 6 (u3.toNatClampNeg + 1) 7 (.inl v)) 6 i 7 = if i = u3.toNatClampNeg + 1 then v else m_i τ 6 i 7 := by
      intro β v F e
      have F7 : fw_e (wl [(6, 7)]) β (m_set β 6 (u3.toNatClampNeg + 1) 7 (.inl v)) := fw_set rfl
      refine ⟨F.tr (wl_mono F7 (by decide)), fun i => ?_⟩
      rw [mi_si]
      by_cases q : i = u3.toNatClampNeg + 1
      · rw [if_pos ⟨rfl, q, rfl⟩, if_pos q]
      · rw [if_neg (fun z => q z.2.1), if_neg q, e]
    have a0 := fun v => s7 τ v fw_e.rf' (fun _ => rfl)
    rcases h with ⟨_, rfl⟩ | ⟨hl, hr, v3, _, v7, _, ⟨_, ⟨_, ⟨_, σX, e, h⟩ | ⟨_, σX, e, h⟩⟩ | ⟨_, ⟨_, σX, e, h⟩ | ⟨_, σX, e, h⟩⟩⟩ | ⟨_, ⟨_, ⟨_, σX, e, h⟩ | ⟨q, σX, e, h⟩⟩ | ⟨_, ⟨_, ⟨_, σX, e, h⟩ | ⟨q, σX, e, h⟩⟩ | ⟨_, σ50, e5, ⟨_, σX, e, h⟩ | ⟨q, σX, e, h⟩⟩⟩⟩⟩
    · exact ⟨I1, I2⟩
    · rw [e] at h; exact core _ _ hr.2 (a0 _).1 (a0 _).2 (Or.inl rfl) h
    · rw [e] at h; exact core _ _ hr.2 (a0 _).1 (a0 _).2 (Or.inl rfl) h
    · rw [e] at h; exact core _ _ hr.2 (a0 _).1 (a0 _).2 (Or.inl rfl) h
    · rw [e] at h; exact core _ _ hr.2 (a0 _).1 (a0 _).2 (Or.inl rfl) h
    · rw [e] at h; exact core _ _ hr.2 (a0 _).1 (a0 _).2 (Or.inl rfl) h
    · rw [e] at h; exact core _ _ hr.2 (a0 _).1 (a0 _).2 (Or.inr ⟨rfl, by have := q; show (m_i τ 6 _ 9).toInt = 0; omega⟩) h
    · rw [e] at h; exact core _ _ hr.2 (a0 _).1 (a0 _).2 (Or.inl rfl) h
    · rw [e] at h; exact core _ _ hr.2 (a0 _).1 (a0 _).2 (Or.inr ⟨rfl, by have := q; show (m_i τ 6 _ 9).toInt = 0; omega⟩) h
    · have F5 : fw_e (wl [(6, 8)]) τ σ50 := by rw [e5]; exact fw_set rfl
      have b0 := fun v => s7 σ50 v (wl_mono F5 (by decide)) (fun i => (F5.2 6 i 7 rfl).1)
      rw [e] at h; exact core _ _ hr.2 (b0 _).1 (b0 _).2 (Or.inl rfl) h
    · have F5 : fw_e (wl [(6, 8)]) τ σ50 := by rw [e5]; exact fw_set rfl
      have b0 := fun v => s7 σ50 v (wl_mono F5 (by decide)) (fun i => (F5.2 6 i 7 rfl).1)
      rw [(F5.2 6 _ 9 rfl).1] at q
      rw [e] at h; exact core _ _ hr.2 (b0 _).1 (b0 _).2 (Or.inr ⟨rfl, by have := q; show (m_i τ 6 _ 9).toInt = 0; omega⟩) h
theorem f42 {n : Int} {σ σ' : mS} (h : CI n σ) (p : P42 σ σ') : CI n σ' ∧ fw_e (wl [(6, 7), (6, 8)]) σ σ' := by
  obtain ⟨k, hq⟩ := p
  obtain ⟨F, hl⟩ := q42_s k _ σ σ' hq (by rw [i_0]; omega) (by rw [i_0]; omega) ⟨fw_e.rf', h.2.2.2.1⟩
  exact ⟨CI_fl F h hl rfl, F⟩
theorem q43_s {σ : mS} : ∀ n (u3 : Int32) (w : mR), Q43_19 σ (Int32.ofInt 5) n u3 w → 0 ≤ u3.toInt → w = none ∨ ∃ m, 1 ≤ m ∧ m < 6 ∧ w = some (6, m) ∧ mi6 σ m 7 ≠ 0 := by
  intro n
  induction n with
  | zero => intro u3 w h; exact h.elim
  | succ n IH =>
    intro u3 w h p0
    have h : B43_19 σ (Int32.ofInt 5) (Q43_19 σ (Int32.ofInt 5) n) u3 w := h
    have e1 : u3.toInt < 5 → (u3 + Int32.ofInt 1).toInt = u3.toInt + 1 := fun _ => i_inc p0 (by omega)
    have n3 := i_nat p0
    rcases h with ⟨_, rfl⟩ | ⟨_, hr, ⟨_, h⟩ | ⟨q, ⟨_, h⟩ | ⟨_, rfl⟩⟩⟩
    · exact Or.inl rfl
    · exact IH _ _ h (by omega)
    · exact IH _ _ h (by omega)
    · exact Or.inr ⟨_, by omega, by omega, rfl, q⟩
theorem f43 {σ : mS} {w : mR} (p : P43 σ w) : w = none ∨ ∃ m, 1 ≤ m ∧ m < 6 ∧ w = some (6, m) ∧ mi6 σ m 7 ≠ 0 ∧ m_r σ 2 0 9 = none := by
  rcases p with ⟨e, k, hq⟩ | ⟨_, _, rfl⟩
  · rcases q43_s k _ w hq (by rw [i_0]; omega) with h | ⟨m, h1, h2, h3, h4⟩
    · exact Or.inl h
    · exact Or.inr ⟨m, h1, h2, h3, h4, e⟩
  · exact Or.inl rfl
theorem q14_s {N : Nat} {c1 : Int32} {σ : mS} (hn : hN σ N) : ∀ n (u2 : Int32) (τ σ' : mS), Q14_2 c1 n u2 τ σ' → 0 ≤ u2.toInt → u2.toInt ≤ N → fw_e w14 σ τ → OX N σ τ ∧ (∀ o, o < u2.toNatClampNeg → oi τ o 1 = c1.toInt → oi τ o 9 = 0) ∧ (∀ o, oi σ o 1 ≠ c1.toInt → eO σ τ o) → OX N σ σ' ∧ (∀ o, o < N → oi σ' o 1 = c1.toInt → oi σ' o 9 = 0) ∧ (∀ o, oi σ o 1 ≠ c1.toInt → eO σ σ' o) := by
  intro n
  induction n with
  | zero => intro u2 τ σ' h; exact h.elim
  | succ n IH =>
    intro u2 τ σ' h p0 pN F hI
    have h : B14_2 c1 (Q14_2 c1 n) u2 τ σ' := h
    obtain ⟨X, I2, I3⟩ := hI
    have hnτ := X.2.1.hN hn
    have n2 := i_nat p0
    have hN1 := hnτ.1
    have hN2 := hnτ.2
    have e1 : u2.toInt < 120 → (u2 + Int32.ofInt 1).toInt = u2.toInt + 1 := fun _ => i_inc p0 (by omega)
    have fin : (N : Int) ≤ u2.toInt → OX N σ τ ∧ (∀ o, o < N → oi τ o 1 = c1.toInt → oi τ o 9 = 0) ∧ (∀ o, oi σ o 1 ≠ c1.toInt → eO σ τ o) := fun hh => ⟨X, fun o ho => I2 o (by omega), I3⟩
    rcases h with ⟨hh, rfl⟩ | ⟨_, ⟨hh, rfl⟩ | ⟨_, hr, h⟩⟩
    · exact fin (by omega)
    · exact fin (by omega)
    have e2 := e1 hr.2
    have n3 := i_nat (a := u2 + Int32.ofInt 1) (by omega)
    rcases h with ⟨hne, h⟩ | ⟨heq, _, σ7, F7, p7, h⟩
    · refine IH _ _ _ h (by omega) (by omega) F ⟨X, fun o ho z => ?_, I3⟩
      by_cases q : o = u2.toNatClampNeg
      · rw [q] at z
        exact absurd z hne
      · exact I2 o (by omega) z
    · obtain ⟨Y, y9, ye⟩ := OX_go X.1 F7 p7
      have heq' : oi τ u2.toNatClampNeg 1 = c1.toInt := Decidable.of_not_not heq
      refine IH _ _ _ h (by omega) (by omega) (F.tr (wl_mono F7 (by decide))) ⟨X.tr Y, fun o ho z => ?_, fun o z => ?_⟩
      · by_cases q : o = u2.toNatClampNeg
        · rw [q]; exact y9
        · have z' : oi τ o 1 = c1.toInt := by rw [← Y.2.1.oi o (k := 1) (by omega)]; exact z
          rw [(ye o q).o.2.2]
          exact I2 o (by omega) z'
      · by_cases q : o = u2.toNatClampNeg
        · have : oi τ o 1 = oi σ o 1 := X.2.1.oi o (k := 1) (by omega)
          rw [q] at this z
          omega
        · exact (I3 o z).tr (ye o q)
