/-! a run in one hall beside a run in the other: renaming of references, instructions without heap -/
def rn (ρ : Nat × Nat → mR) (x : mV) : mV := match x with
  | .inl a => .inl a
  | .inr (.inl a) => .inr (.inl a)
  | .inr (.inr none) => .inr (.inr none)
  | .inr (.inr (some q)) => .inr (.inr (ρ q))
def rS (ρ : Nat × Nat → mR) (st : List mV) : List mV := st.map (rn ρ)
def rL (ρ : Nat × Nat → mR) (L : List (Option mV)) : List (Option mV) := L.map (fun o => o.map (rn ρ))
section SM1
variable {ρ : Nat × Nat → mR} {L L' : List (Option mV)} {st st' : List mV} {i : Nat}
theorem rn_ld : m_ld (rL ρ L) i = (m_ld L i).map (rn ρ) := by
  unfold m_ld rL
  rw [List.getElem?_map]
  cases L[i]? with
  | none => rfl
  | some o => cases o <;> rfl
theorem rn_len : (rL ρ L).length = L.length := List.length_map ..
theorem rn_set {o : Option mV} : (rL ρ L).set i (o.map (rn ρ)) = rL ρ (L.set i o) := by
  unfold rL
  rw [List.map_set]
theorem rn_clr : m_clr (rL ρ L) i = rL ρ (m_clr L i) := by
  cases i with
  | zero => rfl
  | succ k =>
    unfold m_clr
    dsimp only
    rw [rn_ld]
    cases m_ld L k with
    | none => rfl
    | some z =>
      rcases z with a | a | _ | q
      · rfl
      · exact rn_set (o := none)
      · rfl
      · rfl
theorem rn_sto {x : mV} : m_sto (rL ρ L) i (rn ρ x) = rL ρ (m_sto L i x) := by
  unfold m_sto
  rw [rn_clr]
  exact rn_set (o := some x)
theorem rn_sto2 {x : mV} : m_sto2 (rL ρ L) i (rn ρ x) = rL ρ (m_sto2 L i x) := by
  unfold m_sto2
  rw [rn_sto]
  exact rn_set (o := none)
def rQs (ρ : Nat × Nat → mR) (q : Nat × List (Option mV) × List mV) : Nat × List (Option mV) × List mV := (q.1, rL ρ q.2.1, rS ρ q.2.2)
theorem rn_nx {pc : Nat} {o : Option (List mV)} : m_nx pc (rL ρ L) (o.map (rS ρ)) = (m_nx pc L o).map (rQs ρ) := by cases o <;> rfl
theorem rn_ny {pc : Nat} {o : Option (List (Option mV) × List mV)} : m_ny pc (o.map (fun q => (rL ρ q.1, rS ρ q.2))) = (m_ny pc o).map (rQs ρ) := by cases o <;> rfl
theorem rn_ldi : m_ldi (rL ρ L) i (rS ρ st) = (m_ldi L i st).map (rS ρ) := by
  unfold m_ldi
  rw [rn_ld]
  cases m_ld L i with
  | none => rfl
  | some z => rcases z with a | a | _ | q <;> rfl
theorem rn_ldl : m_ldl (rL ρ L) i (rS ρ st) = (m_ldl L i st).map (rS ρ) := by
  unfold m_ldl
  rw [rn_ld]
  cases m_ld L i with
  | none => rfl
  | some z => rcases z with a | a | _ | q <;> rfl
theorem rn_lda : m_lda (rL ρ L) i (rS ρ st) = (m_lda L i st).map (rS ρ) := by
  unfold m_lda
  rw [rn_ld]
  cases m_ld L i with
  | none => rfl
  | some z => rcases z with a | a | _ | q <;> rfl
theorem rn_sti : m_sti (rL ρ L) i (rS ρ st) = (m_sti L i st).map (fun q => (rL ρ q.1, rS ρ q.2)) := by
  rcases st with _ | ⟨a | a | _ | q, st⟩
  · rfl
  · show (if i < (rL ρ L).length then some (m_sto (rL ρ L) i (rn ρ (.inl a)), rS ρ st) else none) = (if i < L.length then some (m_sto L i (.inl a), st) else none).map _
    rw [rn_len, rn_sto]
    split <;> rfl
  · rfl
  · rfl
  · rfl
theorem rn_stl : m_stl (rL ρ L) i (rS ρ st) = (m_stl L i st).map (fun q => (rL ρ q.1, rS ρ q.2)) := by
  rcases st with _ | ⟨a | a | _ | q, st⟩
  · rfl
  · rfl
  · show (if i + 1 < (rL ρ L).length then some (m_sto2 (rL ρ L) i (rn ρ (.inr (.inl a))), rS ρ st) else none) = (if i + 1 < L.length then some (m_sto2 L i (.inr (.inl a)), st) else none).map _
    rw [rn_len, rn_sto2]
    split <;> rfl
  · rfl
  · rfl
theorem rn_sta : m_sta (rL ρ L) i (rS ρ st) = (m_sta L i st).map (fun q => (rL ρ q.1, rS ρ q.2)) := by
  rcases st with _ | ⟨a | a | _ | q, st⟩
  · rfl
  · rfl
  · rfl
  · show (if i < (rL ρ L).length then some (m_sto (rL ρ L) i (rn ρ (.inr (.inr none))), rS ρ st) else none) = (if i < L.length then some (m_sto L i (.inr (.inr none)), st) else none).map _
    rw [rn_len, rn_sto]
    split <;> rfl
  · show (if i < (rL ρ L).length then some (m_sto (rL ρ L) i (rn ρ (.inr (.inr (some q)))), rS ρ st) else none) = (if i < L.length then some (m_sto L i (.inr (.inr (some q))), st) else none).map _
    rw [rn_len, rn_sto]
    split <;> rfl
theorem rn_b32 {f : Int32 → Int32 → Int32} : m_b32 f (rS ρ st) = (m_b32 f st).map (rS ρ) := by
  rcases st with _ | ⟨a | a | _ | q, _ | ⟨b | b | _ | p, st⟩⟩ <;> rfl
theorem rn_b64 {f : Int64 → Int64 → Int64} : m_b64 f (rS ρ st) = (m_b64 f st).map (rS ρ) := by
  rcases st with _ | ⟨a | a | _ | q, _ | ⟨b | b | _ | p, st⟩⟩ <;> rfl
set_option maxHeartbeats 4000000 in
/-- without heap nothing looks at a reference -/
theorem rn_pure {r : mRow} {pc : Nat} : m_pure r pc (rL ρ L) (rS ρ st) = (m_pure r pc L st).map (rQs ρ) := by
  obtain ⟨ig, ln, ra, rb, rz, rp⟩ := r
  unfold m_pure
  cases ig
  case aconst_null => rfl
  case iconst n => rfl
  case bipush n => rfl
  case sipush n => rfl
  case lconst n => rfl
  case ldc n =>
    dsimp only
    by_cases h : ra = 1
    · rw [if_pos h, if_pos h]; rfl
    · rw [if_neg h, if_neg h]; rfl
  case ldc_w n =>
    dsimp only
    by_cases h : ra = 1
    · rw [if_pos h, if_pos h]; rfl
    · rw [if_neg h, if_neg h]; rfl
  case ldc2_w n => rfl
  case iload i => dsimp only; rw [rn_ldi]; exact rn_nx
  case iload_n i => dsimp only; rw [rn_ldi]; exact rn_nx
  case lload i => dsimp only; rw [rn_ldl]; exact rn_nx
  case lload_n i => dsimp only; rw [rn_ldl]; exact rn_nx
  case aload i => dsimp only; rw [rn_lda]; exact rn_nx
  case aload_n i => dsimp only; rw [rn_lda]; exact rn_nx
  case istore i => dsimp only; rw [rn_sti]; exact rn_ny
  case istore_n i => dsimp only; rw [rn_sti]; exact rn_ny
  case lstore i => dsimp only; rw [rn_stl]; exact rn_ny
  case lstore_n i => dsimp only; rw [rn_stl]; exact rn_ny
  case astore i => dsimp only; rw [rn_sta]; exact rn_ny
  case astore_n i => dsimp only; rw [rn_sta]; exact rn_ny
  case iinc i n =>
    dsimp only
    rw [rn_ld]
    cases m_ld L i with
    | none => rfl
    | some z =>
      rcases z with a | a | _ | q
      · show (if (i : Nat) < (rL ρ L).length then some (pc + 3, m_sto (rL ρ L) i (rn ρ (.inl (a + Int32.ofInt n))), rS ρ st) else none) = (if (i : Nat) < L.length then some (pc + 3, m_sto L i (.inl (a + Int32.ofInt n)), st) else none).map _
        rw [rn_len, rn_sto]
        split <;> rfl
      · rfl
      · rfl
      · rfl
  case iadd => dsimp only; rw [rn_b32]; exact rn_nx
  case isub => dsimp only; rw [rn_b32]; exact rn_nx
  case imul => dsimp only; rw [rn_b32]; exact rn_nx
  case iand => dsimp only; rw [rn_b32]; exact rn_nx
  case ixor => dsimp only; rw [rn_b32]; exact rn_nx
  case ladd => dsimp only; rw [rn_b64]; exact rn_nx
  case lsub => dsimp only; rw [rn_b64]; exact rn_nx
  case lmul => dsimp only; rw [rn_b64]; exact rn_nx
  case idiv =>
    rcases st with _ | ⟨a | a | _ | q, _ | ⟨b | b | _ | p, st⟩⟩ <;> try rfl
    show (if a = 0 then none else some (pc + 1, rL ρ L, .inl (b / a) :: rS ρ st)) = (if a = 0 then none else some (pc + 1, L, .inl (b / a) :: st)).map _
    split <;> rfl
  case irem =>
    rcases st with _ | ⟨a | a | _ | q, _ | ⟨b | b | _ | p, st⟩⟩ <;> try rfl
    show (if a = 0 then none else some (pc + 1, rL ρ L, .inl (b - b / a * a) :: rS ρ st)) = (if a = 0 then none else some (pc + 1, L, .inl (b - b / a * a) :: st)).map _
    split <;> rfl
  case ldiv =>
    rcases st with _ | ⟨a | a | _ | q, _ | ⟨b | b | _ | p, st⟩⟩ <;> try rfl
    show (if a = 0 then none else some (pc + 1, rL ρ L, .inr (.inl (b / a)) :: rS ρ st)) = (if a = 0 then none else some (pc + 1, L, .inr (.inl (b / a)) :: st)).map _
    split <;> rfl
  case lrem =>
    rcases st with _ | ⟨a | a | _ | q, _ | ⟨b | b | _ | p, st⟩⟩ <;> try rfl
    show (if a = 0 then none else some (pc + 1, rL ρ L, .inr (.inl (b - b / a * a)) :: rS ρ st)) = (if a = 0 then none else some (pc + 1, L, .inr (.inl (b - b / a * a)) :: st)).map _
    split <;> rfl
  case ineg => rcases st with _ | ⟨a | a | _ | q, st⟩ <;> rfl
  case lneg => rcases st with _ | ⟨a | a | _ | q, st⟩ <;> rfl
  case lcmp => rcases st with _ | ⟨a | a | _ | q, _ | ⟨b | b | _ | p, st⟩⟩ <;> rfl
  case i2l => rcases st with _ | ⟨a | a | _ | q, st⟩ <;> rfl
  case l2i => rcases st with _ | ⟨a | a | _ | q, st⟩ <;> rfl
  case dup => rcases st with _ | ⟨a | a | _ | q, st⟩ <;> rfl
  case dup2 => rcases st with _ | ⟨a | a | _ | q, _ | ⟨b | b | _ | p, st⟩⟩ <;> rfl
  case pop => rcases st with _ | ⟨a | a | _ | q, st⟩ <;> rfl
  case pop2 => rcases st with _ | ⟨a | a | _ | q, st⟩ <;> rfl
  case goto o => rfl
  case tableswitch d lo hi offs =>
    rcases st with _ | ⟨x | a | _ | q, st⟩ <;> try rfl
    show (if x.toInt < lo ∨ hi < x.toInt then some (((pc : Int) + d).toNat, rL ρ L, rS ρ st) else match offs[(x.toInt - lo).toNat]? with
      | some o => some (((pc : Int) + o).toNat, rL ρ L, rS ρ st)
      | none => none) = (if x.toInt < lo ∨ hi < x.toInt then some (((pc : Int) + d).toNat, L, st) else match offs[(x.toInt - lo).toNat]? with
      | some o => some (((pc : Int) + o).toNat, L, st)
      | none => none).map _
    split
    · rfl
    · cases offs[(x.toInt - lo).toNat]? <;> rfl
  all_goals rfl
/-- where an instruction without heap goes on -/
theorem rn_pc {r : mRow} {pc : Nat} {q : Nat × List (Option mV) × List mV} (h : m_pure r pc L st = some q) : ((∀ o, r.1 ≠ .goto o) ∧ q.1 = pc + m_len r) ∨ ((∃ o, r.1 = .goto o) ∧ q.1 = r.2.2.1) ∨ ∃ a b c d, r.1 = .tableswitch a b c d := by
  obtain ⟨ig, ln, ra, rb, rz, rp⟩ := r
  obtain ⟨pc', L', st'⟩ := q
  unfold m_pure at h
  simp only at h
  split at h
  all_goals first
    | exact Or.inr (Or.inr ⟨_, _, _, _, rfl⟩)
    | (cases h; exact Or.inr (Or.inl ⟨⟨_, rfl⟩, rfl⟩))
    | (cases h; exact Or.inl ⟨(fun o h => by cases h), rfl⟩)
    | (obtain ⟨e, -, -⟩ := m_nx_ok h; subst e; exact Or.inl ⟨(fun o h => by cases h), rfl⟩)
    | (obtain ⟨e, -⟩ := m_ny_ok h; subst e; exact Or.inl ⟨(fun o h => by cases h), rfl⟩)
    | (split at h <;> first | (cases h; exact Or.inl ⟨(fun o h => by cases h), rfl⟩) | (cases h) | (split at h <;> first | (cases h; exact Or.inl ⟨(fun o h => by cases h), rfl⟩) | cases h))
    | cases h
end SM1
/-! which references may be about -/
def gV (G : Nat × Nat → Prop) (x : mV) : Prop := match x with
  | .inr (.inr (some q)) => G q
  | _ => True
noncomputable def rG (G : Nat × Nat → Prop) (q : Nat × Nat) : mR := @ite _ (G q) (Classical.propDecidable _) (some q) none
section SM2
variable {G G' : Nat × Nat → Prop} {L L' : List (Option mV)} {st st' : List mV}
theorem gV_mono (h : ∀ q, G q → G' q) {x : mV} (g : gV G x) : gV G' x := by
  rcases x with a | a | _ | q
  · trivial
  · trivial
  · trivial
  · exact h q g
theorem rG_iff {x : mV} : rn (rG G) x = x ↔ gV G x := by
  rcases x with a | a | _ | q
  · exact ⟨fun _ => trivial, fun _ => rfl⟩
  · exact ⟨fun _ => trivial, fun _ => rfl⟩
  · exact ⟨fun _ => trivial, fun _ => rfl⟩
  · show (Sum.inr (Sum.inr (rG G q)) : mV) = _ ↔ G q
    unfold rG
    by_cases h : G q
    · rw [if_pos h]; exact ⟨fun _ => h, fun _ => rfl⟩
    · rw [if_neg h]; exact ⟨(fun h => by cases h), fun g => absurd g h⟩
theorem map_fix {α : Type} {f : α → α} : ∀ {l : List α}, l.map f = l ↔ ∀ x ∈ l, f x = x
  | [] => ⟨(fun _ x h => by cases h), fun _ => rfl⟩
  | a :: t => by
    rw [List.map_cons]
    constructor
    · intro h x hxs
      injection h with h1 h2
      rcases List.mem_cons.mp hxs with rfl | hxs
      · exact h1
      · exact map_fix.mp h2 x hxs
    · intro h
      rw [h a List.mem_cons_self, map_fix.mpr (fun x hxs => h x (List.mem_cons_of_mem a hxs))]
theorem rG_S : rS (rG G) st = st ↔ ∀ x ∈ st, gV G x := by
  unfold rS
  rw [map_fix]
  exact ⟨fun h x hxs => rG_iff.mp (h x hxs), fun h x hxs => rG_iff.mpr (h x hxs)⟩
theorem rG_L : rL (rG G) L = L ↔ ∀ x, some x ∈ L → gV G x := by
  unfold rL
  rw [map_fix]
  constructor
  · intro h x hxs
    have := h (some x) hxs
    exact rG_iff.mp (Option.some.inj this)
  · intro h o ho
    cases o with
    | none => rfl
    | some x => exact congrArg some (rG_iff.mpr (h x ho))
/-- no new references -/
theorem gV_pure {r : mRow} {pc : Nat} {q : Nat × List (Option mV) × List mV} (h : m_pure r pc L st = some q) (h1 : ∀ x, some x ∈ L → gV G x) (h2 : ∀ x ∈ st, gV G x) : (∀ x, some x ∈ q.2.1 → gV G x) ∧ ∀ x ∈ q.2.2, gV G x := by
  have g := rn_pure (ρ := rG G) (r := r) (pc := pc) (L := L) (st := st)
  rw [rG_L.mpr h1, rG_S.mpr h2, h] at g
  have g := Option.some.inj g
  exact ⟨rG_L.mp (congrArg (fun q => q.2.1) g).symm, rG_S.mp (congrArg (fun q => q.2.2) g).symm⟩
theorem gV_cond {r : mRow} {q : Prop × List mV} (h : m_cond r st = some q) (h2 : ∀ x ∈ st, gV G x) : ∀ x ∈ q.2, gV G x := by
  obtain ⟨ig, ln, ra, rb, rz, rp⟩ := r
  unfold m_cond at h
  simp only at h
  split at h
  all_goals first
    | cases h
    | (split at h <;> first | (cases h; intro x hxs; first | exact h2 x (List.mem_cons_of_mem _ hxs) | exact h2 x (List.mem_cons_of_mem _ (List.mem_cons_of_mem _ hxs))) | cases h | (split at h <;> (cases h; intro x hxs; exact h2 x (List.mem_cons_of_mem _ (List.mem_cons_of_mem _ hxs)))))
end SM2
/-! hall 0 beside hall 1: where a thing of the one lies in the other -/
def sm_off (c : Nat) : Nat := match c with
  | 0 => 1
  | 2 => 1
  | 4 => 1
  | 6 => 6
  | 7 => 120
  | 8 => 3
  | 10 => 200
  | 13 => 18
  | 14 => 7
  | 16 => 1
  | 17 => 1
  | 18 => 1
  | 20 => 1
  | 21 => 1
  | _ => 0
def sm_mx (c : Nat) : Nat := match c with
  | 0 => 1
  | 2 => 1
  | 4 => 1
  | 6 => 6
  | 7 => 120
  | 8 => 3
  | 10 => 200
  | 13 => 4
  | 14 => 6
  | 16 => 1
  | 17 => 1
  | 18 => 1
  | 20 => 1
  | 21 => 1
  | _ => 0
def sm_ρ (q : Nat × Nat) : mR := some (q.1, q.2 + sm_off q.1)
theorem sm_b {x : mR} : rn sm_ρ (.inr (.inr x)) = .inr (.inr (x.bind sm_ρ)) := by cases x <;> rfl
theorem sm_inj {x y : mR} : x.bind sm_ρ = y.bind sm_ρ ↔ x = y := by
  rcases x with _ | ⟨a, b⟩ <;> rcases y with _ | ⟨c, d⟩
  · exact ⟨fun _ => rfl, fun _ => rfl⟩
  · exact ⟨(fun h => by cases h), (fun h => by cases h)⟩
  · exact ⟨(fun h => by cases h), (fun h => by cases h)⟩
  · constructor
    · intro h
      have h1 : (some (a, b + sm_off a) : mR) = some (c, d + sm_off c) := h
      have h2 := Prod.mk.inj (Option.some.inj h1)
      obtain ⟨rfl, h3⟩ := h2
      exact congrArg some (Prod.ext rfl (Nat.add_right_cancel h3))
    · intro h; rw [h]
theorem sm_cond {r : mRow} {st : List mV} {q : Prop × List mV} (h : m_cond r st = some q) : ∃ P, m_cond r (rS sm_ρ st) = some (P, rS sm_ρ q.2) ∧ (P ↔ q.1) := by
  obtain ⟨ig, ln, ra, rb, rz, rp⟩ := r
  unfold m_cond at h ⊢
  cases ig
  case ifCond c o =>
    dsimp only at h ⊢
    rcases st with _ | ⟨a | a | _ | p, st⟩
    · cases h
    · cases h; exact ⟨_, rfl, Iff.rfl⟩
    · cases h
    · cases h
    · cases h
  case if_icmp c o =>
    dsimp only at h ⊢
    rcases st with _ | ⟨a | a | _ | p, _ | ⟨b | b | _ | p', st⟩⟩ <;> first | cases h | skip
    · exact ⟨_, rfl, Iff.rfl⟩
  case if_acmp c o =>
    dsimp only at h ⊢
    rcases st with _ | ⟨a | a | y, _ | ⟨b | b | x, st⟩⟩
    · cases h
    · cases h
    · cases h
    · cases h
    · cases h
    · cases h
    · cases h
    · cases h
    · cases h
    · cases h
    · cases h
    · cases h
    · have e : rS sm_ρ (.inr (.inr y) :: .inr (.inr x) :: st) = .inr (.inr (y.bind sm_ρ)) :: .inr (.inr (x.bind sm_ρ)) :: rS sm_ρ st := by
        show rn sm_ρ (.inr (.inr y)) :: rn sm_ρ (.inr (.inr x)) :: rS sm_ρ st = _
        rw [sm_b, sm_b]
      rw [e]
      cases c
      · cases h
        exact ⟨_, rfl, sm_inj⟩
      · cases h
        exact ⟨_, rfl, not_congr sm_inj⟩
  case ifnull o =>
    dsimp only at h ⊢
    rcases st with _ | ⟨a | a | _ | p, st⟩
    · cases h
    · cases h
    · cases h
    · cases h; exact ⟨_, rfl, Iff.rfl⟩
    · cases h; exact ⟨_, rfl, ⟨(fun h => by cases h), (fun h => by cases h)⟩⟩
  case ifnonnull o =>
    dsimp only at h ⊢
    rcases st with _ | ⟨a | a | _ | p, st⟩
    · cases h
    · cases h
    · cases h
    · cases h; exact ⟨_, rfl, Iff.rfl⟩
    · cases h; exact ⟨_, rfl, ⟨(fun _ h => by cases h), (fun _ h => by cases h)⟩⟩
  all_goals cases h
