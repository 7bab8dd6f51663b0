/-! rows that call a method whose word holds many bytes: the table's own constant, not its bytes compared -/
theorem n_rowS {pc i ln j b : Nat} {rz : Int} {rp : List Nat} {y : mMt} (hd : decode code pc = .ok (.invokestatic i, m_len (.invokestatic i, ln, j, b, rz, rp))) (h1 : Nat.ble 1000 j = false) (hy : m_mt[j]? = some y) (hw0 : m_wd (m_p (.invokestatic i, ln, j, b, rz, rp) 0) (.methodLink RL i y.1) = true) (hw1 : m_wd (m_p (.invokestatic i, ln, j, b, rz, rp) 1) (.static y.1) = true) (hc : m_callB room_1 y (.invokestatic i, ln, j, b, rz, rp) = true) : m_rowB m_mt RL false code room_1 (pc, (.invokestatic i, ln, j, b, rz, rp)) = true := by
  unfold m_rowB
  dsimp only
  rw [h1, hy]
  dsimp only [cond_false]
  rw [hw0, hw1, hc, decide_eq_true hd]
  rfl
theorem n_callS {R : Room} {n : MethodName} {c : ByteArray} {mL : Nat} {rt : Option FieldType} {rm : Room} {r : mRow} (hi : m_wd (m_p r 3) (.initialized n.cls) = true) (hcode : lw_tbl[m_p r 4]? = some (.code n c mL rt)) (hg : goodWord (.code n c mL rt) = true) (hp : n.cls ≠ "java/lang/invoke/MethodHandle" ∧ n.cls ≠ "java/lang/invoke/VarHandle" ∧ (parseMethodDescriptor n.desc).map (fun d => d.parameters.length) = some r.2.2.2.1) (hr : rm.frames + 1 ≤ R.frames ∧ 8 + (mL + 11) + rm.locals ≤ R.locals) : m_callB R (n, c, mL, rt, rm, []) r = true := by
  unfold m_callB
  dsimp only
  rw [hi]
  unfold m_wd
  rw [decide_eq_true hcode, hg, decide_eq_true hp, decide_eq_true hr]
  rfl
theorem n_callSX {R : Room} {n : MethodName} {c : ByteArray} {mL : Nat} {rt : Option FieldType} {rm : Room} {r : mRow} {h0 : Nat × Nat × Nat × Nat} {ht : List (Nat × Nat × Nat × Nat)} (hi : m_wd (m_p r 3) (.initialized n.cls) = true) (hcode : lw_tbl[m_p r 4]? = some (.codeWith n c mL rt (h0 :: ht))) (hg : goodWord (.codeWith n c mL rt (h0 :: ht)) = true) (hp : n.cls ≠ "java/lang/invoke/MethodHandle" ∧ n.cls ≠ "java/lang/invoke/VarHandle" ∧ (parseMethodDescriptor n.desc).map (fun d => d.parameters.length) = some r.2.2.2.1) (hr : rm.frames + 1 ≤ R.frames ∧ 8 + (mL + 11) + rm.locals ≤ R.locals) : m_callB R (n, c, mL, rt, rm, h0 :: ht) r = true := by
  unfold m_callB
  dsimp only
  rw [hi]
  unfold m_wd
  rw [decide_eq_true hcode, hg, decide_eq_true hp, decide_eq_true hr]
  rfl
