/-! a contract out of the method's steps -/
theorem m_con_run {l : Launch} (hl : l.stackTraces = false) {mt : List mMt} {y : MethodName} {cc : ByteArray} {maxL mc ms : Nat} {ret : Option FieldType} {rm : Room} {avs : List mV} {σ : mS} {Q : mX → mS → Prop} {rows : List (Nat × mRow)} {ini : Bool} (hok : ∀ q ∈ rows, m_rowB mt y.cls ini cc rm q = true) (hy : plainName y.cls = true) (hn : (m_args avs).length ≤ maxL) (hini : ini = true → y.name = "<init>") (f : Nat)
    (h : m_run mt l ret rm maxL rows mc ms Q (fun _ _ _ _ _ _ => False) [] f 0 (m_L0 maxL avs) [] σ 0 0) : m_Con l y (m_W y cc maxL ret) rm mc ms avs σ Q :=
  m_con_of hl hy hn (fun p e s m args below meth cd D ty xs A ρ0 C hex hrt hnm => m_goes C hex hrt (fun z => hnm.trans (hini z)) hok (fun _ _ _ _ _ _ h => h.elim) f _ _ _ _ _ _ h)
theorem con_X7_isGone {l : Launch} (hl : l.stackTraces = false) {σ : mS} {i : Nat} {Q : mX → mS → Prop} (h : Q (.inl (some (.inl (if m_i σ 7 i 9 = 0 then 1 else 0)))) σ) : m_Con l yX7_isGone (m_W yX7_isGone cX7_isGone 1 (some .boolean)) rm_X7_isGone 0 0 [.inr (.inr (some (7, i)))] σ Q := by
  refine m_con_run hl ok_X7_isGone (by decide +kernel) (Nat.le_of_ble_eq_true rfl) (fun h => by cases h) 20 ?_
  repeat' first
    | rfl
    | exact Or.inl rfl
    | exact Or.inr ⟨rfl, Or.inl rfl⟩
    | exact Or.inr ⟨rfl, Or.inr rfl⟩
    | exact Nat.le_refl _
    | exact ⟨by decide, by decide⟩
    | (apply And.intro)
    | intro h0
  all_goals trace_state
  all_goals sorry
