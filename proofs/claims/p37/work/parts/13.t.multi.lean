/-! new int[4][3]: the heap behind it -/
/-- one more thing in the same heap -/
theorem m_X.nuG {D : va_G} {ty : List (ClassId × FieldType)} {s : State} {xs : Option (Nat × (Nat → Int32))} {ρ : Nat → Nat → Option Nat} {σ τ : mS} {H : Heap} (h : m_X D ty s xs ρ σ H) {c a : Nat} (hc : c ≠ 98) (hfr : ∀ c' i', ρ c' i' ≠ some a) (hcnt : τ.1 c = σ.1 c + 1) (hcntO : ∀ c', c' ≠ c → τ.1 c' = σ.1 c') (hlen : ∀ c' i', ¬ (c' = c ∧ i' = σ.1 c) → τ.2.1 c' i' = σ.2.1 c' i') (hget : ∀ c' i' k', ¬ (c' = c ∧ i' = σ.1 c) → m_get τ c' i' k' = m_get σ c' i' k') (hn : m_cell D ty (m_ad ρ c (σ.1 c) a) τ c (σ.1 c) a H) :
    m_X D ty s xs (m_ad ρ c (σ.1 c) a) τ H ∧ m_le ρ (m_ad ρ c (σ.1 c) a) ∧ m_ad ρ c (σ.1 c) a c (σ.1 c) = some a ∧ ∀ c' i' a', m_ad ρ c (σ.1 c) a c' i' = some a' → a' = a ∨ ρ c' i' = some a' := by
  have hno : ∀ a', ¬ ρ c (σ.1 c) = some a' := fun a' z => Nat.lt_irrefl _ (h.2.2.1 c (σ.1 c) a' z)
  have hle : m_le ρ (m_ad ρ c (σ.1 c) a) := by
    intro c' i' a' h'
    unfold m_ad
    by_cases e : c' = c ∧ i' = σ.1 c
    · obtain ⟨rfl, rfl⟩ := e
      exact absurd h' (hno a')
    · rw [if_neg e]; exact h'
  have hs : m_ad ρ c (σ.1 c) a c (σ.1 c) = some a := if_pos ⟨rfl, rfl⟩
  have hcase : ∀ c' i' a', m_ad ρ c (σ.1 c) a c' i' = some a' → (c' = c ∧ i' = σ.1 c ∧ a' = a) ∨ (¬ (c' = c ∧ i' = σ.1 c) ∧ ρ c' i' = some a') := by
    intro c' i' a' h'
    unfold m_ad at h'
    by_cases e : c' = c ∧ i' = σ.1 c
    · rw [if_pos e] at h'; cases h'; exact Or.inl ⟨e.1, e.2, rfl⟩
    · rw [if_neg e] at h'; exact Or.inr ⟨e, h'⟩
  refine ⟨⟨?_, ?_, ?_, ?_⟩, hle, hs, fun c' i' a' h' => (hcase c' i' a' h').elim (fun z => Or.inl z.2.2) (fun z => Or.inr z.2)⟩
  · intro c1 i1 c2 i2 a' e1 e2
    rcases hcase _ _ _ e1 with ⟨p1, p2, p3⟩ | ⟨p1, p2⟩ <;> rcases hcase _ _ _ e2 with ⟨q1, q2, q3⟩ | ⟨q1, q2⟩
    · exact ⟨p1.trans q1.symm, p2.trans q2.symm⟩
    · rw [p3] at q2; exact absurd q2 (hfr _ _)
    · rw [q3] at p2; exact absurd p2 (hfr _ _)
    · exact h.1 _ _ _ _ _ p2 q2
  · intro c' i' h'
    by_cases e : c' = c
    · subst e
      rw [hcnt] at h'
      by_cases e2 : i' = σ.1 c'
      · subst e2; exact ⟨a, hs⟩
      · obtain ⟨a', g⟩ := h.2.1 c' i' (by omega)
        exact ⟨a', hle _ _ _ g⟩
    · rw [hcntO c' e] at h'
      obtain ⟨a', g⟩ := h.2.1 c' i' h'
      exact ⟨a', hle _ _ _ g⟩
  · intro c' i' a' h'
    rcases hcase _ _ _ h' with ⟨rfl, rfl, -⟩ | ⟨-, g⟩
    · rw [hcnt]; omega
    · have g' := h.2.2.1 _ _ _ g
      by_cases e : c' = c
      · subst e; rw [hcnt]; omega
      · rw [hcntO c' e]; exact g'
  · intro c' i' a' h'
    rcases hcase _ _ _ h' with ⟨rfl, rfl, rfl⟩ | ⟨e, g⟩
    · exact Or.inr ⟨hc, hn⟩
    · rcases h.2.2.2 c' i' a' g with ⟨h1, q, h2, h3⟩ | ⟨h1, h2⟩
      · exact Or.inl ⟨h1, q, h2, h3⟩
      · exact Or.inr ⟨h1, h2.to hle (fun k' => hget c' i' k' e) (hlen c' i' e) rfl⟩
def m_mr (ρ : Nat → Nat → Option Nat) (b o h : Nat) : Nat → Nat → Option Nat := fun c i => if c = 13 ∧ b ≤ i ∧ i < b + 4 then some (h + 1 + (i - b)) else if c = 21 ∧ i = o then some h else ρ c i
section MMB
variable {p : Program} {l : Launch} {e : Env} {R : Room} {s : State} {m : MethodId} {args : Array Value} {below : List Frame} {meth : Method} {cd : Code} {Qt : State → Prop} {A : Nat → Prop} {ρ0 : Nat → Nat → Option Nat} {cc : ByteArray} {own : String} {D : va_G} {ty : List (ClassId × FieldType)} {xs : Option (Nat × (Nat → Int32))} {nL : Nat}
variable {pc k n : Nat} {L : List (Option mV)} {st : List mV} {σ : mS}
theorem m_j_mna (C : m_C p l s m args meth cd cc own nL D ty A) {index : Nat} (hcl : Cond.classLink own index ("[" ++ (FieldType.array FieldType.int).toString) ∈ m_BIG) (hov : Cond.arrayOver (.array .int) ∈ m_ODD) (harr : Cond.arrayClass .int ∈ m_BIG) (hr : m_rm R (k + 5) (n + 16)) (hd : decode cc pc = .ok (.multianewarray index 2, 4)) (K : m_J p l e R s m args below meth cd Qt A ρ0 (m_X D ty s xs) (pc + 4) L (.inr (.inr (some (21, σ.1 21))) :: st) (m_mn σ) (k + 5) (n + 16)) : m_J p l e R s m args below meth cd Qt A ρ0 (m_X D ty s xs) pc L (.inl 3 :: .inl 4 :: st) σ k n := by
  obtain ⟨hx, hb, hown, HB, HE, hA, hml, hlk, hl0⟩ := C
  intro ρ H locs ls sw h1 h2 h3 h4 h5 h6
  obtain ⟨_, rfl, u6⟩ := m_sr_i h6
  obtain ⟨_, rfl, h7⟩ := m_sr_i u6
  refine m_Wmna hx hb hown (HB _ hcl) (show va_Nw (.arrayOver (.array .int)) s from HE.2.2.1 _ hov) (HB _ harr) hr.1 hr.2 hd (fun cA cy H1 fA fC z1 o1 eo ei => ?_)
  have hl : ty.length = 9 := by
    have : (ty.map (fun q => q.2)).length = 9 := by rw [HE.2.1]; rfl
    rwa [List.length_map] at this
  have q0 : ty[0]? = some (ty[0]'(by omega)) := List.getElem?_eq_getElem _
  have q8 : ty[8]? = some (ty[8]'(by omega)) := List.getElem?_eq_getElem _
  have t0 : (ty[0]'(by omega)).2 = .int := m_tyAt HE.2.1 q0 rfl
  have t8 : (ty[8]'(by omega)).2 = .array .int := m_tyAt HE.2.1 q8 rfl
  have r0 := (HE.1.2 0 _ q0).2
  have r8 := (HE.1.2 8 _ q8).2
  rw [t0] at r0
  rw [t8] at r8
  have c0 : cy = (ty[0]'(by omega)).1 := Option.some.inj (fC.symm.trans r0)
  have c8 : cA = (ty[8]'(by omega)).1 := Option.some.inj (fA.symm.trans r8)
  have hno13 : ∀ i a, ρ 13 i = some a → i < σ.1 13 := fun i a z => h2.2.2.1 _ _ _ z
  have hno21 : ∀ i a, ρ 21 i = some a → i < σ.1 21 := fun i a z => h2.2.2.1 _ _ _ z
  have hcase : ∀ c i a, m_mr ρ (σ.1 13) (σ.1 21) H.size c i = some a → (c = 13 ∧ σ.1 13 ≤ i ∧ i < σ.1 13 + 4 ∧ a = H.size + 1 + (i - σ.1 13)) ∨ (c = 21 ∧ i = σ.1 21 ∧ a = H.size) ∨ (¬ (c = 13 ∧ σ.1 13 ≤ i) ∧ ¬ (c = 21 ∧ i = σ.1 21) ∧ ρ c i = some a) := by
    intro c i a z
    unfold m_mr at z
    by_cases g1 : c = 13 ∧ σ.1 13 ≤ i ∧ i < σ.1 13 + 4
    · rw [if_pos g1] at z; cases z; exact Or.inl ⟨g1.1, g1.2.1, g1.2.2, rfl⟩
    · rw [if_neg g1] at z
      by_cases g2 : c = 21 ∧ i = σ.1 21
      · rw [if_pos g2] at z; cases z; exact Or.inr (Or.inl ⟨g2.1, g2.2, rfl⟩)
      · rw [if_neg g2] at z
        refine Or.inr (Or.inr ⟨fun g => ?_, g2, z⟩)
        have : i < σ.1 13 := hno13 i a (by rw [← g.1]; exact z)
        omega
  have hle : m_le ρ (m_mr ρ (σ.1 13) (σ.1 21) H.size) := by
    intro c i a z
    unfold m_mr
    rw [if_neg (fun g => by have := hno13 i a (by rw [← g.1]; exact z); omega), if_neg (fun g => by have := hno21 i a (by rw [← g.1]; exact z); omega)]
    exact z
  have hlt : ∀ c i a, ρ c i = some a → a < H.size := fun c i a z => h2.lt z
  have hX : m_X D ty s xs (m_mr ρ (σ.1 13) (σ.1 21) H.size) (m_mn σ) H1 := by
    refine ⟨?_, ?_, ?_, ?_⟩
    · intro c i c' i' a e1 e2
      rcases hcase _ _ _ e1 with ⟨p1, p2, p3, p4⟩ | ⟨p1, p2, p3⟩ | ⟨p1, p2, p3⟩ <;> rcases hcase _ _ _ e2 with ⟨q1, q2, q3, q4⟩ | ⟨q1, q2, q3⟩ | ⟨q1, q2, q3⟩
      · exact ⟨p1.trans q1.symm, by omega⟩
      · omega
      · have := hlt _ _ _ q3; omega
      · omega
      · exact ⟨p1.trans q1.symm, p2.trans q2.symm⟩
      · have := hlt _ _ _ q3; omega
      · have := hlt _ _ _ p3; omega
      · have := hlt _ _ _ p3; omega
      · exact h2.1 _ _ _ _ _ p3 q3
    · intro c i hi
      have hi' : i < (if c = 13 then σ.1 13 + 4 else if c = 21 then σ.1 21 + 1 else σ.1 c) := hi
      unfold m_mr
      by_cases g1 : c = 13 ∧ σ.1 13 ≤ i ∧ i < σ.1 13 + 4
      · rw [if_pos g1]; exact ⟨_, rfl⟩
      · rw [if_neg g1]
        by_cases g2 : c = 21 ∧ i = σ.1 21
        · rw [if_pos g2]; exact ⟨_, rfl⟩
        · rw [if_neg g2]
          refine h2.2.1 c i ?_
          by_cases c13 : c = 13
          · subst c13
            rw [if_pos rfl] at hi'
            omega
          · rw [if_neg c13] at hi'
            by_cases c21 : c = 21
            · subst c21
              rw [if_pos rfl] at hi'
              omega
            · rw [if_neg c21] at hi'; exact hi'
    · intro c i a z
      show i < (if c = 13 then σ.1 13 + 4 else if c = 21 then σ.1 21 + 1 else σ.1 c)
      rcases hcase _ _ _ z with ⟨rfl, p2, p3, -⟩ | ⟨rfl, rfl, -⟩ | ⟨-, -, p3⟩
      · rw [if_pos rfl]; exact p3
      · rw [if_neg (by decide), if_pos rfl]; omega
      · have g := h2.2.2.1 _ _ _ p3
        by_cases c13 : c = 13
        · subst c13; rw [if_pos rfl]; omega
        · rw [if_neg c13]
          by_cases c21 : c = 21
          · subst c21; rw [if_pos rfl]; omega
          · rw [if_neg c21]; exact g
    · intro c i a z
      rcases hcase _ _ _ z with ⟨rfl, p2, p3, p4⟩ | ⟨rfl, rfl, rfl⟩ | ⟨p1, p2, p3⟩
      · refine Or.inr ⟨by decide, Or.inr ⟨0, _, rfl, q0, fun _ => .int 0, ?_, fun k' hk' => ?_⟩⟩
        · have hln : (m_mn σ).2.1 13 i = 3 := if_pos ⟨rfl, p2⟩
          rw [hln, p4, ← c0]
          exact ei (i - σ.1 13) (by omega)
        · have hg : m_get (m_mn σ) 13 i k' = .inl ((m_mn σ).2.2.1 13 i k') := by
            unfold m_get
            rw [show m_ty 13 k' = 0 from m_ty_arr (j := 0) rfl]
            rfl
          rw [hg, show (m_mn σ).2.2.1 13 i k' = 0 from if_pos ⟨rfl, p2⟩]
          rfl
      · refine Or.inr ⟨by decide, Or.inr ⟨8, _, rfl, q8, fun j => if j < 4 then Value.ref (H.size + 1 + j) else .null, ?_, fun k' hk' => ?_⟩⟩
        · have hln : (m_mn σ).2.1 21 (σ.1 21) = 4 := by
            show (if (21 : Nat) = 13 ∧ σ.1 13 ≤ σ.1 21 then 3 else if (21 : Nat) = 21 ∧ σ.1 21 = σ.1 21 then 4 else σ.2.1 21 (σ.1 21)) = 4
            rw [if_neg (fun g => absurd g.1 (by decide)), if_pos ⟨rfl, rfl⟩]
          rw [hln, ← c8]
          exact eo
        · have hln : (m_mn σ).2.1 21 (σ.1 21) = 4 := by
            show (if (21 : Nat) = 13 ∧ σ.1 13 ≤ σ.1 21 then 3 else if (21 : Nat) = 21 ∧ σ.1 21 = σ.1 21 then 4 else σ.2.1 21 (σ.1 21)) = 4
            rw [if_neg (fun g => absurd g.1 (by decide)), if_pos ⟨rfl, rfl⟩]
          rw [hln] at hk'
          have hg : m_get (m_mn σ) 21 (σ.1 21) k' = .inr (.inr ((m_mn σ).2.2.2.2 21 (σ.1 21) k')) := by
            unfold m_get
            rw [show m_ty 21 k' = 2 from m_ty_arr (j := 8) rfl]
            rfl
          rw [hg, show (m_mn σ).2.2.2.2 21 (σ.1 21) k' = some (13, σ.1 13 + k') from if_pos ⟨rfl, rfl⟩]
          refine ⟨H.size + 1 + k', ?_, if_pos hk'⟩
          show m_mr ρ (σ.1 13) (σ.1 21) H.size 13 (σ.1 13 + k') = _
          unfold m_mr
          rw [if_pos ⟨rfl, by omega, by omega⟩]
          congr 1
          omega
      · rcases h2.2.2.2 c i a p3 with ⟨g1, q, g2, g3⟩ | ⟨g1, g2⟩
        · exact Or.inl ⟨g1, q, g2, g3.kept (o1 _ (hlt _ _ _ p3))⟩
        · refine Or.inr ⟨g1, g2.to hle (fun k' => ?_) ?_ (o1 _ (hlt _ _ _ p3))⟩
          · have e3 : (m_mn σ).2.2.1 c i k' = σ.2.2.1 c i k' := if_neg p1
            have e5 : (m_mn σ).2.2.2.2 c i k' = σ.2.2.2.2 c i k' := if_neg p2
            unfold m_get m_i m_l m_r
            rw [e3, e5]
            rfl
          · show (if c = 13 ∧ σ.1 13 ≤ i then 3 else if c = 21 ∧ i = σ.1 21 then 4 else σ.2.1 c i) = _
            rw [if_neg p1, if_neg p2]
  refine K _ H1 locs ls _ (h1.tr hle) hX (fun c i a h98 z => ?_) ⟨Nat.le_trans h4.1 (by omega), fun q e2 e3 => (o1 q (Nat.lt_of_lt_of_le e2 h4.1)).trans (h4.2.1 q e2 e3), h4.2.2⟩ (h5.le hle) ⟨⟨H.size, ?_, rfl⟩, h7.le hle⟩
  · rcases hcase _ _ _ z with ⟨-, -, -, rfl⟩ | ⟨-, -, rfl⟩ | ⟨-, -, p3⟩
    · exact hA _ (Nat.le_trans h4.1 (by omega))
    · exact hA _ h4.1
    · exact h3 _ _ _ h98 p3
  · show m_mr ρ (σ.1 13) (σ.1 21) H.size 21 (σ.1 21) = some H.size
    unfold m_mr
    rw [if_neg (fun g => absurd g.1 (by decide)), if_pos ⟨rfl, rfl⟩]
end MMB
