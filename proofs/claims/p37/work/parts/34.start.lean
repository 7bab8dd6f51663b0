/-! what holds at the law's entry, for the model -/
theorem ab_arrP {s : State} {args : Array Value} {ty : FieldType} (h : (Cond.arrayClass ty).before args s = true) : ∃ cA, ArrOfT s cA ty ∧ s.vm.findClass ("[" ++ ty.toString) = some cA := by
  obtain ⟨cA, kA, comp, h1, h2, h3⟩ := Cond.arrayClass_spec h
  exact ⟨cA, fun n z => ⟨fun k h => (by cases h), kA, h2, comp, h3⟩, h1⟩
theorem ab_arrO {s : State} {args : Array Value} {C : String} (h : (Cond.arrayOver (.object C)).before args s = true) : ∃ cA, ArrOfT s cA (.object C) ∧ va_RA s cA (.object C) := by
  obtain ⟨comp, cA, kA, h1, -, h2, h3, h4⟩ := Cond.arrayOver_spec h
  exact ⟨cA, fun n z => ⟨fun k h => (by cases h), kA, h2, comp, h3⟩, kA, comp, h2, h3, h1, h4⟩
theorem ab_arrA {s : State} {args : Array Value} {t : FieldType} (h : (Cond.arrayOver (.array t)).before args s = true) : ∃ cA, ArrOfT s cA (.array t) ∧ va_RA s cA (.array t) := by
  obtain ⟨comp, cA, kA, h1, h2, h3, h4⟩ := Cond.arrayOver_specA h
  exact ⟨cA, fun n z => ⟨fun k h => (by cases h), kA, h2, comp, h3⟩, h4⟩
theorem ab_instB : m_cls.all (fun v => lw_tbl.contains (.instantiable v.1 v.2.2)) = true := by decide +kernel
theorem ab_odd {s : State} {args : Array Value} (hts : ∀ w ∈ lw_tbl, w.before args s = true) : ∀ w ∈ m_ODD, va_Nw w s := by
  intro w hw
  obtain ⟨h1, h2⟩ := List.mem_filter.mp hw
  have h3 := hts w h1
  cases w with
  | arrayOver t => exact h3
  | castable a b => exact va_Nw.of rfl h3
  | declares a => exact va_Nw.of rfl h3
  | methodLinkNest a b c d => exact va_Nw.of rfl h3
  | _ => cases h2
theorem ab_clsK {s : State} {args : Array Value} (hts : ∀ w ∈ lw_tbl, w.before args s = true) (c : Nat) : ∃ (cC : ClassId) (iS : Nat → Nat), ∀ q : vw_C, m_cls[c]? = some q → u_Kn s q.1 q.2.1 q.2.2 cC iS := by
  cases hq : m_cls[c]? with
  | none => exact ⟨0, fun _ => 0, fun q h => by cases h⟩
  | some r =>
    have hi := List.contains_iff_mem.mp (List.all_eq_true.mp ab_instB r (List.mem_of_getElem? hq))
    obtain ⟨cC, iS, h⟩ := u_known (C := r.1) (T := r.2.1) (N := r.2.2) (n := r.2.2) hts (fun w hw => (List.mem_filter.mp (m_lay hq w hw)).1) (hts _ hi)
    exact ⟨cC, iS, fun q hq2 => by cases hq2; exact h⟩
theorem ab_strB : m_strs.all (fun q => decide (q.1 = RX11) && lw_tbl.contains (.stringRef q.1 q.2.1 q.2.2)) = true := by decide +kernel
theorem ab_En {s : State} {args : Array Value} (hts : ∀ w ∈ lw_tbl, w.before args s = true) (hgv : (Jvm.Cond.and given_1 narrow_1).before args s = true) : ∃ (D : va_G) (ty : List (ClassId × FieldType)), m_En D ty (fun q => s.heap.size ≤ q) s := by
  have hs := flat_of_before _ hgv
  have hA : ∀ a : Nat, a < s.heap.size → ¬ (fun q : Nat => s.heap.size ≤ q) a := fun a h1 h2 => Nat.lt_irrefl _ (Nat.lt_of_lt_of_le h1 h2)
  obtain ⟨c0, a0, b0⟩ := ab_arrP (hts (.arrayClass .int) (by decide +kernel))
  obtain ⟨c1, a1, b1⟩ := ab_arrP (hts (.arrayClass .long) (by decide +kernel))
  obtain ⟨c2, a2, b2⟩ := ab_arrP (hts (.arrayClass .int) (by decide +kernel))
  obtain ⟨c3, a3, b3⟩ := ab_arrO (hts (.arrayOver (.object "NettingHall$Member")) (by decide +kernel))
  obtain ⟨c4, a4, b4⟩ := ab_arrO (hts (.arrayOver (.object "NettingHall$Order")) (by decide +kernel))
  obtain ⟨c5, a5, b5⟩ := ab_arrO (hts (.arrayOver (.object "NettingHall$Paper")) (by decide +kernel))
  obtain ⟨c6, a6, b6⟩ := ab_arrO (hts (.arrayOver (.object "NettingHall$Reader")) (by decide +kernel))
  obtain ⟨c7, a7, b7⟩ := ab_arrO (hts (.arrayOver (.object "NettingHall$Trade")) (by decide +kernel))
  obtain ⟨c8, a8, b8⟩ := ab_arrA (hts (.arrayOver (.array .int)) (by decide +kernel))
  refine ⟨(fun c => Classical.choose (ab_clsK hts c), fun c => Classical.choose (Classical.choose_spec (ab_clsK hts c))), [(c0, .int), (c1, .long), (c2, .int), (c3, .object "NettingHall$Member"), (c4, .object "NettingHall$Order"), (c5, .object "NettingHall$Paper"), (c6, .object "NettingHall$Reader"), (c7, .object "NettingHall$Trade"), (c8, .array .int)], ⟨fun c q hq => Classical.choose_spec (Classical.choose_spec (ab_clsK hts c)) q hq, fun k q hk => ?_⟩, rfl, ab_odd hts, ?_, ?_, ?_, ?_⟩
  · match k, hk with
    | 0, hk => cases hk; exact ⟨a0, b0⟩
    | 1, hk => cases hk; exact ⟨a1, b1⟩
    | 2, hk => cases hk; exact ⟨a2, b2⟩
    | 3, hk => cases hk; exact ⟨a3, b3⟩
    | 4, hk => cases hk; exact ⟨a4, b4⟩
    | 5, hk => cases hk; exact ⟨a5, b5⟩
    | 6, hk => cases hk; exact ⟨a6, b6⟩
    | 7, hk => cases hk; exact ⟨a7, b7⟩
    | 8, hk => cases hk; exact ⟨a8, b8⟩
    | n + 9, hk => cases hk
  · exact vx_Zqof (hts (.laysStatic "java/lang/Throwable" "UNASSIGNED_STACK" "[Ljava/lang/StackTraceElement;") (by decide +kernel)) (hts (.initialized "java/lang/Throwable") (by decide +kernel)) (hs (.isRef (.static "java/lang/Throwable" "UNASSIGNED_STACK" "[Ljava/lang/StackTraceElement;")) (by decide +kernel)) hA
  · exact vx_Zqof (hts (.laysStatic "java/lang/Throwable" "SUPPRESSED_SENTINEL" "Ljava/util/List;") (by decide +kernel)) (hts (.initialized "java/lang/Throwable") (by decide +kernel)) (hs (.isRef (.static "java/lang/Throwable" "SUPPRESSED_SENTINEL" "Ljava/util/List;")) (by decide +kernel)) hA
  · intro q hq
    have g := List.all_eq_true.mp ab_strB q hq
    rw [Bool.and_eq_true, decide_eq_true_eq] at g
    have hw := hts _ (List.contains_iff_mem.mp g.2)
    obtain ⟨cC, kC, hfc, -⟩ := Cond.instantiable_spec (hts (.instantiable RX11 6) (by decide +kernel))
    obtain ⟨k, cf, i, a, -, -, -, -, -, hev⟩ := Cond.stringRef_spec (cls := q.1) (cur := cC) (by rw [g.1]; exact hfc) hw
    exact ⟨a, vk_R.of hw hev⟩
  · intro x y hx hy hne
    have h01 := hs (.not (.castable "java/lang/IndexOutOfBoundsException" "java/lang/IllegalArgumentException")) (by decide +kernel)
    have h02 := hs (.not (.castable "java/lang/IndexOutOfBoundsException" "java/lang/IllegalStateException")) (by decide +kernel)
    have h10 := hs (.not (.castable "java/lang/IllegalArgumentException" "java/lang/IndexOutOfBoundsException")) (by decide +kernel)
    have h12 := hs (.not (.castable "java/lang/IllegalArgumentException" "java/lang/IllegalStateException")) (by decide +kernel)
    have h20 := hs (.not (.castable "java/lang/IllegalStateException" "java/lang/IndexOutOfBoundsException")) (by decide +kernel)
    have h21 := hs (.not (.castable "java/lang/IllegalStateException" "java/lang/IllegalArgumentException")) (by decide +kernel)
    match x, y, hx, hy, hne with
    | 0, 0, _, _, hn => exact absurd rfl hn
    | 0, 1, _, _, _ => exact va_Nc.of h01
    | 0, 2, _, _, _ => exact va_Nc.of h02
    | 1, 0, _, _, _ => exact va_Nc.of h10
    | 1, 1, _, _, hn => exact absurd rfl hn
    | 1, 2, _, _, _ => exact va_Nc.of h12
    | 2, 0, _, _, _ => exact va_Nc.of h20
    | 2, 1, _, _, _ => exact va_Nc.of h21
    | 2, 2, _, _, hn => exact absurd rfl hn
/-- nothing of the model is there but the script -/
def ab_σ0 : mS := (fun c => if c = 98 then 1 else 0, fun _ _ => 0, fun _ _ _ => 0, fun _ _ _ => 0, fun _ _ _ => none)
def ab_ρ0 (b : Nat) : Nat → Nat → Option Nat := fun c i => if c = 98 ∧ i = 0 then some b else none
theorem ab_X0 {D : va_G} {ty : List (ClassId × FieldType)} {s : State} {b L : Nat} {xs : Nat → Int32} (hX : va_X b L xs s s.heap) : m_X D ty s (some (L, xs)) (ab_ρ0 b) ab_σ0 s.heap := by
  have inv : ∀ {c i a : Nat}, ab_ρ0 b c i = some a → c = 98 ∧ i = 0 ∧ a = b := by
    intro c i a h
    unfold ab_ρ0 at h
    by_cases e : c = 98 ∧ i = 0
    · rw [if_pos e] at h
      cases h
      exact ⟨e.1, e.2, rfl⟩
    · rw [if_neg e] at h
      cases h
  refine ⟨fun c i c' i' a h1 h2 => ?_, fun c i hi => ?_, fun c i a h => ?_, fun c i a h => ?_⟩
  · obtain ⟨p1, p2, -⟩ := inv h1
    obtain ⟨q1, q2, -⟩ := inv h2
    exact ⟨p1.trans q1.symm, p2.trans q2.symm⟩
  · by_cases e : c = 98
    · subst e
      have hi' : i < 1 := hi
      exact ⟨b, if_pos ⟨rfl, by omega⟩⟩
    · have hi' : i < (if c = 98 then 1 else 0) := hi
      rw [if_neg e] at hi'
      exact absurd hi' (Nat.not_lt_zero _)
  · obtain ⟨p1, p2, -⟩ := inv h
    subst p1; subst p2
    exact Nat.lt_succ_self 0
  · obtain ⟨p1, p2, p3⟩ := inv h
    subst p3
    exact Or.inl ⟨p1, _, rfl, hX⟩
