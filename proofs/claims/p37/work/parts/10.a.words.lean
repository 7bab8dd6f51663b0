/-! a method's context; calls; throws-/
theorem m_BIG_good : ∀ w ∈ m_BIG, (w.onTables && w.keeps) = true ∨ ∃ ty, w = .arrayClass ty := fun w hw => good_of_word (List.mem_filter.mp hw).2
/-- the words of every method: its own code first, then all that the tables have -/
def m_W (y : MethodName) (bytes : ByteArray) (mL : Nat) (rt : Option FieldType) : List Cond := Cond.code y bytes mL rt :: m_BIG
theorem m_W_good {y : MethodName} {bytes : ByteArray} {mL : Nat} {rt : Option FieldType} (h : Cond.code y bytes mL rt ∈ m_BIG) : GoodIn m_BIG (m_W y bytes mL rt) := by
  intro w hw
  rcases List.mem_cons.mp hw with rfl | hw
  · exact ⟨h, m_BIG_good _ h⟩
  · exact ⟨hw, m_BIG_good _ hw⟩
/-- what holds throughout a method's body -/
def m_C (p : Program) (l : Launch) (s : State) (m : MethodId) (args : Array Value) (meth : Method) (cd : Code) (cc : ByteArray) (own : String) (nL : Nat) (D : va_G) (ty : List (ClassId × FieldType)) (A : Nat → Prop) : Prop :=
  p.tables.exec = Jvm.exec ∧ cd.code = cc ∧ s.vm.findClass own = some m.cls ∧ (∀ w ∈ m_BIG, w.before args s = true) ∧ m_En D ty A s ∧ (∀ q, s.heap.size ≤ q → A q) ∧ cd.maxLocals = nL ∧ meth.locks = false ∧ l.stackTraces = false
def m_xwB (x : Nat) : Bool := (Cond.classLink RX11 (m_xk x).1 (m_xn x) :: Cond.initialized (m_xn x) :: vx_atS RX11 (m_xk x).2 (m_xn x) m_xnames).all (fun w => lw_tbl.contains w && (goodWord w || m_oddk w) && vx_ot w)
theorem m_xwB_0 : m_xwB 0 = true := by decide +kernel
theorem m_xwB_1 : m_xwB 1 = true := by decide +kernel
theorem m_xwB_2 : m_xwB 2 = true := by decide +kernel
theorem m_xw {x : Nat} (hx : x < 3) : m_xwB x = true := by
  have : x = 0 ∨ x = 1 ∨ x = 2 := by omega
  rcases this with rfl | rfl | rfl
  · exact m_xwB_0
  · exact m_xwB_1
  · exact m_xwB_2
