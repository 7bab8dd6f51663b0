/-! the beginning's heap, as the analysis has it; main's answer -/
theorem n_ty1 : ((List.range 8).all (fun k => Nat.beq (m_ty 1 k) 0 || Nat.beq (m_ty 1 k) 3) && Nat.beq (m_ty 1 8) 2) = true := by decide +kernel
theorem n_ty12 : (Nat.beq (m_ty 12 35) 0 || Nat.beq (m_ty 12 35) 3) = true := by decide +kernel
theorem n_get0 {c i k : Nat} (h : (Nat.beq (m_ty c k) 0 || Nat.beq (m_ty c k) 3) = true) : m_get ab_σ0 c i k = .inl 0 := by
  unfold m_get
  rcases (Bool.or_eq_true _ _).mp h with g | g
  · rw [Nat.eq_of_beq_eq_true g]
    rfl
  · rw [Nat.eq_of_beq_eq_true g]
    rfl
theorem n_hpS : ab_hp 1 (fun _ => 0) ac_H0 ab_σ0 := by
  have hb : ac_H0.1.all (fun q => Nat.beq q.2.1 0 && decide (q.2.2 = (ab_σ0.1 q.1 : Int))) = true := by decide
  have ht := n_ty1
  rw [Bool.and_eq_true] at ht
  refine ⟨fun q hq => ?_, fun q hq => (by cases hq), fun q hq => ?_, fun q hq => (by cases hq)⟩
  · have g := List.all_eq_true.mp hb q hq
    rw [Bool.and_eq_true, decide_eq_true_eq] at g
    have e1 := Nat.eq_of_beq_eq_true g.1
    refine ⟨by rw [e1]; exact Nat.zero_lt_succ _, ?_⟩
    rw [← g.2]
    exact (Int.zero_add _).symm
  · rcases List.mem_cons.mp hq with rfl | hq
    · intro i k h1 h2 h3 h4
      have h4 : k ≤ 7 := h4
      show ab_Tr (0, 0, 0, 0, 0, 0) (m_get ab_σ0 1 i k)
      rw [n_get0 (List.all_eq_true.mp ht.1 k (List.mem_range.mpr (by omega)))]
      exact ⟨rfl, Int.le_refl _, Int.le_refl _⟩
    rcases List.mem_cons.mp hq with rfl | hq
    · intro i k h1 h2 h3 h4
      have h3 : 8 ≤ k := h3
      have h4 : k ≤ 8 := h4
      have e0 : k = 8 := by omega
      subst e0
      have e : m_get ab_σ0 1 i 8 = .inr (.inr none) := by
        unfold m_get
        rw [Nat.eq_of_beq_eq_true ht.2]
        rfl
      show ab_Tr (2, 0, 0, 0, 0, 0) (m_get ab_σ0 1 i 8)
      rw [e]
      exact ⟨rfl, rfl⟩
    rcases List.mem_cons.mp hq with rfl | hq
    · intro i k h1 h2 h3 h4
      have h3 : 35 ≤ k := h3
      have h4 : k ≤ 35 := h4
      have e0 : k = 35 := by omega
      subst e0
      show ab_Tr (0, 0, 0, 0, 0, 0) (m_get ab_σ0 12 i 35)
      rw [n_get0 n_ty12]
      exact ⟨rfl, Int.le_refl _, Int.le_refl _⟩
    cases hq
theorem n_tyz {C : ec_C} {z : mAl} {j f : Nat} {s : ev_T} {x : mX} {σ' : mS} (h : ev_r none sm_all C j z f s = some (x, σ')) : tp_x z.1.2.2.2.1 x := by
  refine ev_inv (I := fun _ => True) (Po := fun x _ => tp_x z.1.2.2.2.1 x) (fun _ _ _ _ => trivial) (fun s e _ h => tp_fin (o := .inr (.inl e)) h) (fun s c x σ' _ _ _ => ?_) f s x σ' trivial h
  cases x with
  | inl v => trivial
  | inr e =>
    dsimp only
    cases z.1.2.2.2.2.2 with
    | nil => trivial
    | cons w ws => exact fun _ _ => trivial
theorem n_tyr {C : ec_C} {s : ev_T} {q : mX × mS} (h : n_run C s q) : tp_x (some .boolean) q.1 := by
  obtain ⟨f, h⟩ := h
  obtain ⟨x, σ'⟩ := q
  exact n_tyz h
/-- from the empty heap, main runs and answers 1 -/
theorem n_main1 {len : Nat} {fc : Nat → Int32} (hlen : len < 2147483648) : ∃ f σ', ev_r none sm_all (n_Cf (some (len, fc))) 18 ab_main f (0, m_L0 18 [rf 98 0], [], ab_σ0, 0, 0) = some (.inl (some (.inl 1)), σ') := by
  obtain ⟨w, σ2, hr, v, ew, hv⟩ := n_whole (fc := fc) (σ00 := ab_σ0) hlen (fun c hc => if_neg hc) (fun _ _ _ => rfl) n_hpS
  subst ew
  have t := n_tyr hr
  have e1 : v = 1 := by
    rcases (t : some FieldType.boolean = some FieldType.int ∨ (some FieldType.boolean = some FieldType.boolean ∧ (v = 0 ∨ v = 1))) with t | ⟨-, t | t⟩
    · cases t
    · rw [t] at hv
      exact absurd rfl hv
    · exact t
  subst e1
  obtain ⟨f, hr⟩ := hr
  exact ⟨f, σ2, hr⟩
