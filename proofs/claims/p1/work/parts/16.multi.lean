/-! new int[4][3] -/
theorem m_outer (c : ClassId) (N h0 : Nat) : ∀ i : Nat, Jvm.Free.Multi.outerC c N h0 i = arrV c N (fun j => if j < i then Value.ref (h0 + 1 + j) else .null)
  | 0 => by
    show ({ cls := c, slots := Array.replicate N .null, vm := .none } : Cell) = _
    rw [arrV_new]
    exact congrArg (arrV c N) (funext fun j => by simp)
  | i + 1 => by
    show (Jvm.Free.Multi.outerC c N h0 i).setSlot i (.ref (h0 + 1 + i)) = _
    rw [m_outer c N h0 i, arrV_store]
    refine congrArg (arrV c N) (funext fun j => ?_)
    by_cases e : j = i
    · subst e
      simp [updV]
    · by_cases h : j < i
      · simp [updV, e, h, Nat.lt_succ_of_lt h]
      · simp [updV, e, h, show ¬ j < i + 1 by omega]
section MMA
variable {p : Program} {l : Launch} {e : Env} {R : Room} {s : State} {m : MethodId} {args : Array Value} {below : List Frame} {meth : Method} {cd : Code} {H : Heap} {locs : List Loc} {cells slots : Nat} {Q : State → Prop} {cc : ByteArray} {pc : Nat} {ls : Array Slot} {rest : List Value}
theorem m_Wmna (hexec : p.tables.exec = Jvm.exec) (hb : cd.code = cc) {own : String} {index : Nat} (hown : s.vm.findClass own = some m.cls) (hclink : (Cond.classLink own index ("[" ++ (FieldType.array FieldType.int).toString)).before args s = true) (hover : (Cond.arrayOver (.array .int)).before args s = true) (harr : (Cond.arrayClass .int).before args s = true)
    (hcells : cells + 5 ≤ R.cells) (hslots : slots + 16 ≤ R.slots) (hdg : decode cc pc = .ok (.multianewarray index 2, 4))
    (kk : ∀ (cA cy : ClassId) (H1 : Heap), s.vm.findClass ("[" ++ (FieldType.array FieldType.int).toString) = some cA → s.vm.findClass (FieldType.array FieldType.int).toString = some cy → H1.size = H.size + 5 → (∀ q, q < H.size → H1[q]? = H[q]?) → H1[H.size]? = some (arrV cA 4 (fun j => if j < 4 then Value.ref (H.size + 1 + j) else .null)) → (∀ j, j < 4 → H1[H.size + 1 + j]? = some (arrV cy 3 (fun _ => .int 0))) →
      W p l e R s m args below meth cd H1 locs (cells + 5) (slots + 16) Q (F0 m (pc + 4) ls (.ref H.size :: rest))) : W p l e R s m args below meth cd H locs cells slots Q (F0 m pc ls (.int 3 :: .int 4 :: rest)) := by
  intro T hT Xs
  obtain ⟨vm₁, cA, cy, -, fA, fC, -, -, X', step⟩ := Xs.multianewarray2F hexec hown hclink hover harr (g := F0 m pc ls (.int 3 :: .int 4 :: rest)) rfl (by rw [hb]; exact hdg) rfl (by decide) (by decide) (by decide) (by decide) (by decide) (by decide) (by decide) hcells hslots
  have hn4 : (4 : Int32).toNatClampNeg = 4 := by decide
  have hn3 : (3 : Int32).toNatClampNeg = 3 := by decide
  rw [hn4, hn3] at X' step
  generalize hF : Jvm.Free.Multi.fill (T.setVm vm₁) cA cy 4 3 (defaultValue .int) 4 = F at X' step
  have hTh : (T.setVm vm₁).heap = H := hT
  obtain ⟨f1, f2, -, -⟩ := Jvm.Free.Multi.fill_facts (T.setVm vm₁) cA cy 4 3 (defaultValue .int) 4
  rw [hF, hTh] at f1 f2
  have hold : ∀ x : Nat, x < H.size → F.heap[x]? = H[x]? := fun x hx => by
    have := Jvm.Free.Multi.fill_old (T.setVm vm₁) cA cy 4 3 (defaultValue .int) (a := x) (by rw [hTh]; exact hx) 4
    rw [hF, hTh] at this
    exact this
  have hrow : ∀ j : Nat, j < 4 → F.heap[H.size + 1 + j]? = some (arrV cy 3 (fun _ => .int 0)) := fun j hj => by
    have := Jvm.Free.Multi.fill_inner (T.setVm vm₁) cA cy 4 3 (defaultValue .int) 4 j hj
    rw [hF, hTh] at this
    rw [this]
    exact congrArg some (arrV_new cy 3 (.int 0))
  rw [m_outer] at f2
  obtain ⟨t, a1, b1⟩ := kk cA cy F.heap fA fC (by rw [f1]) hold f2 hrow F rfl X'
  have hsz : T.heap.size = H.size := by rw [hT]
  rw [← hsz] at a1
  exact ⟨t, step t a1, b1⟩
end MMA
/-- one more thing in the same heap -/
theorem m_X.nuG {D : va_G} {ty : List (ClassId × FieldType)} {s : State} {xs : Option (Nat × (Nat → Int32))} {ρ : Nat → Nat → Option Nat} {σ τ : mS} {H : Heap} (h : m_X D ty s xs ρ σ H) {c a : Nat} (hc : c ≠ 98) (hfr : ∀ c' i', ρ c' i' ≠ some a) (hcnt : τ.1 c = σ.1 c + 1) (hcntO : ∀ c', c' ≠ c → τ.1 c' = σ.1 c') (hlen : ∀ c' i', ¬ (c' = c ∧ i' = σ.1 c) → τ.2.1 c' i' = σ.2.1 c' i') (hget : ∀ c' i' k', ¬ (c' = c ∧ i' = σ.1 c) → m_get τ c' i' k' = m_get σ c' i' k') (hn : m_cell D ty (m_ad ρ c (σ.1 c) a) τ c (σ.1 c) a H) :
    m_X D ty s xs (m_ad ρ c (σ.1 c) a) τ H ∧ m_le ρ (m_ad ρ c (σ.1 c) a) ∧ m_ad ρ c (σ.1 c) a c (σ.1 c) = some a ∧ ∀ c' i' a', m_ad ρ c (σ.1 c) a c' i' = some a' → a' = a ∨ ρ c' i' = some a' := by
  have hno : ∀ a', ¬ ρ c (σ.1 c) = some a' := fun a' z => Nat.lt_irrefl _ (h.2.2.1 c (σ.1 c) a' z)
  have hle : m_le ρ (m_ad ρ c (σ.1 c) a) := by
    intro c' i' a' h'
    unfold m_ad
    by_cases e : c' = c ∧ i' = σ.1 c
    · obtain ⟨rfl, rfl⟩ := e
      exact absurd h' (hno a')
    · rw [if_neg e]; exact h'
  have hs : m_ad ρ c (σ.1 c) a c (σ.1 c) = some a := if_pos ⟨rfl, rfl⟩
  have hcase : ∀ c' i' a', m_ad ρ c (σ.1 c) a c' i' = some a' → (c' = c ∧ i' = σ.1 c ∧ a' = a) ∨ (¬ (c' = c ∧ i' = σ.1 c) ∧ ρ c' i' = some a') := by
    intro c' i' a' h'
    unfold m_ad at h'
    by_cases e : c' = c ∧ i' = σ.1 c
    · rw [if_pos e] at h'; cases h'; exact Or.inl ⟨e.1, e.2, rfl⟩
    · rw [if_neg e] at h'; exact Or.inr ⟨e, h'⟩
  refine ⟨⟨?_, ?_, ?_, ?_⟩, hle, hs, fun c' i' a' h' => (hcase c' i' a' h').elim (fun z => Or.inl z.2.2) (fun z => Or.inr z.2)⟩
  · intro c1 i1 c2 i2 a' e1 e2
    rcases hcase _ _ _ e1 with ⟨p1, p2, p3⟩ | ⟨p1, p2⟩ <;> rcases hcase _ _ _ e2 with ⟨q1, q2, q3⟩ | ⟨q1, q2⟩
    · exact ⟨p1.trans q1.symm, p2.trans q2.symm⟩
    · rw [p3] at q2; exact absurd q2 (hfr _ _)
    · rw [q3] at p2; exact absurd p2 (hfr _ _)
    · exact h.1 _ _ _ _ _ p2 q2
  · intro c' i' h'
    by_cases e : c' = c
    · subst e
      rw [hcnt] at h'
      by_cases e2 : i' = σ.1 c'
      · subst e2; exact ⟨a, hs⟩
      · obtain ⟨a', g⟩ := h.2.1 c' i' (by omega)
        exact ⟨a', hle _ _ _ g⟩
    · rw [hcntO c' e] at h'
      obtain ⟨a', g⟩ := h.2.1 c' i' h'
      exact ⟨a', hle _ _ _ g⟩
  · intro c' i' a' h'
    rcases hcase _ _ _ h' with ⟨rfl, rfl, -⟩ | ⟨-, g⟩
    · rw [hcnt]; omega
    · have g' := h.2.2.1 _ _ _ g
      by_cases e : c' = c
      · subst e; rw [hcnt]; omega
      · rw [hcntO c' e]; exact g'
  · intro c' i' a' h'
    rcases hcase _ _ _ h' with ⟨rfl, rfl, rfl⟩ | ⟨e, g⟩
    · exact Or.inr ⟨hc, hn⟩
    · rcases h.2.2.2 c' i' a' g with ⟨h1, q, h2, h3⟩ | ⟨h1, h2⟩
      · exact Or.inl ⟨h1, q, h2, h3⟩
      · exact Or.inr ⟨h1, h2.to hle (fun k' => hget c' i' k' e) (hlen c' i' e) rfl⟩
