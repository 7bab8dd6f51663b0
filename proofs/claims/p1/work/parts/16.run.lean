/-! a contract out of the method's steps -/
def m_T (Q : mX → mS → Prop) (mc ms : Nat) : Nat → List (Option mV) → mS → Nat → Nat → Nat → Prop := fun _ _ σ k n x => k ≤ mc ∧ n ≤ ms ∧ Q (.inr x) σ
theorem m_con_go {l : Launch} (hl : l.stackTraces = false) {mt : List mMt} {y : MethodName} {cc : ByteArray} {maxL mc ms : Nat} {ret : Option FieldType} {rm : Room} {avs : List mV} {σ : mS} {Q : mX → mS → Prop} {rows : List (Nat × mRow)} {ini : Bool} (hok : ∀ q ∈ rows, m_rowB mt y.cls ini cc rm q = true) (hy : plainName y.cls = true) (hn : (m_args avs).length ≤ maxL) (hini : ini = true → y.name = "<init>")
    (body : ∀ (xs : Option (Nat × (Nat → Int32))) (J : Nat → List (Option mV) → List mV → mS → Nat → Nat → Prop),
      (∀ (pc : Nat) (L : List (Option mV)) (st : List mV) (σ : mS) (k n : Nat), m_step mt l ret rm maxL rows mc ms Q xs (m_T Q mc ms) J pc L st σ k n → J pc L st σ k n) → J 0 (m_L0 maxL avs) [] σ 0 0) : m_Con l y (m_W y cc maxL ret) rm mc ms avs σ Q :=
  m_con_of hl hy hn (fun p e s m args below meth cd D ty xs A ρ0 C hex hrt hnm => body xs _ (fun pc L st σ k n h => m_go C (fun _ => hex) hrt (fun z => hnm.trans (hini z)) hok h (fun pc L σ k n x hT => m_jx_out (fun x h => (hex x h).elim) C.2.2.2.2.2.2.2.1 hT.1 hT.2.1 hT.2.2) (fun _ _ _ _ _ _ h => h)))
/-- many steps, from a judgement that a step keeps -/
theorem m_many {mt : List mMt} {l : Launch} {maxL mc ms : Nat} {ret : Option FieldType} {rm : Room} {Q : mX → mS → Prop} {rows : List (Nat × mRow)} {xs : Option (Nat × (Nat → Int32))} {T : Nat → List (Option mV) → mS → Nat → Nat → Nat → Prop} {J : Nat → List (Option mV) → List mV → mS → Nat → Nat → Prop}
    (hJ : ∀ (pc : Nat) (L : List (Option mV)) (st : List mV) (σ : mS) (k n : Nat), m_step mt l ret rm maxL rows mc ms Q xs T J pc L st σ k n → J pc L st σ k n) (pc : Nat) (L : List (Option mV)) (st : List mV) (σ : mS) (k n : Nat) (h : m_step mt l ret rm maxL rows mc ms Q xs T J pc L st σ k n) : J pc L st σ k n := hJ pc L st σ k n h
theorem con_X7_isGone {l : Launch} (hl : l.stackTraces = false) {σ : mS} {i : Nat} {Q : mX → mS → Prop} (h : Q (.inl (some (.inl (if m_i σ 7 i 9 = 0 then 1 else 0)))) σ) : m_Con l yX7_isGone (m_W yX7_isGone cX7_isGone 1 (some .boolean)) rm_X7_isGone 0 0 [.inr (.inr (some (7, i)))] σ Q := by
  refine m_con_go hl ok_X7_isGone (by decide +kernel) (Nat.le_of_ble_eq_true rfl) (fun h => by cases h) fun xs J hJ => ?_
  repeat' first
    | rfl
    | exact Or.inl rfl
    | exact Or.inr ⟨rfl, Or.inl rfl⟩
    | exact Or.inr ⟨rfl, Or.inr rfl⟩
    | exact Nat.le_refl _
    | exact ⟨by decide, by decide⟩
    | (apply And.intro)
    | intro h0
    | (apply hJ)
  all_goals trace_state
  all_goals sorry
