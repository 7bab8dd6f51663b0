/-! what the rows owe to the tables -/
def m_p (r : mRow) (i : Nat) : Nat := r.2.2.2.2.2.getD i 0
/-- a row of the table of methods: name, code, places of locals, what is returned, room, handlers -/
abbrev mMt : Type := MethodName × ByteArray × Nat × Option FieldType × Room × List (Nat × Nat × Nat × Nat)
/-- the class of the elements of an array's class -/
def m_el (c : Nat) : Nat := match c with
  | 16 => 6
  | 17 => 7
  | 18 => 8
  | 19 => 9
  | 20 => 10
  | _ => 99
def m_wd (j : Nat) (w : Cond) : Bool := decide (lw_tbl[j]? = some w) && goodWord w
def m_od (j : Nat) (w : Cond) : Bool := decide (lw_tbl[j]? = some w) && m_oddk w
theorem m_wd_ok {j : Nat} {w : Cond} (h : m_wd j w = true) : w ∈ m_BIG := by
  simp only [m_wd, Bool.and_eq_true, decide_eq_true_eq] at h
  exact List.mem_filter.mpr ⟨List.mem_of_getElem? h.1, h.2⟩
theorem m_od_ok {j : Nat} {w : Cond} (h : m_od j w = true) : w ∈ m_ODD := by
  simp only [m_od, Bool.and_eq_true, decide_eq_true_eq] at h
  exact List.mem_filter.mpr ⟨List.mem_of_getElem? h.1, h.2⟩
/-- a call's words: link and kind apart -/
def m_callB (R : Room) (y : mMt) (r : mRow) : Bool :=
  m_wd (m_p r 3) (.initialized y.1.cls) && (match y.2.2.2.2.2 with | [] => m_wd (m_p r 4) (.code y.1 y.2.1 y.2.2.1 y.2.2.2.1) | hh => m_wd (m_p r 4) (.codeWith y.1 y.2.1 y.2.2.1 y.2.2.2.1 hh)) && decide (y.1.cls ≠ "java/lang/invoke/MethodHandle" ∧ y.1.cls ≠ "java/lang/invoke/VarHandle" ∧ (parseMethodDescriptor y.1.desc).map (fun d => d.parameters.length) = some r.2.2.2.1) && decide (y.2.2.2.2.1.frames + 1 ≤ R.frames ∧ 8 + (y.2.2.1 + 11) + y.2.2.2.2.1.locals ≤ R.locals)
def m_mathB (own : String) (i : Nat) (a : Nat) (r : mRow) : Bool := match a with
  | 1000 => m_wd (m_p r 0) (.methodLink own i Lib.Math.max.name) && m_wd (m_p r 1) (.static Lib.Math.max.name) && m_wd (m_p r 4) (.code Lib.Math.max.name Lib.Math.max.code 2 (some .int))
  | 1001 => m_wd (m_p r 0) (.methodLink own i Lib.Math.min.name) && m_wd (m_p r 1) (.static Lib.Math.min.name) && m_wd (m_p r 4) (.code Lib.Math.min.name Lib.Math.min.code 2 (some .int))
  | 1002 => m_wd (m_p r 0) (.methodLink own i Lib.Math.abs.name) && m_wd (m_p r 1) (.static Lib.Math.abs.name) && m_wd (m_p r 4) (.code Lib.Math.abs.name Lib.Math.abs.code 1 (some .int))
  | 1003 => m_wd (m_p r 0) (.methodLink own i Lib.MathLoose.max_long.x) && m_wd (m_p r 1) (.static Lib.MathLoose.max_long.x) && m_wd (m_p r 4) (.code Lib.MathLoose.max_long.x Lib.MathLoose.max_long.code 4 (some .long))
  | 1004 => m_wd (m_p r 0) (.methodLink own i Lib.MathLoose.min_long.x) && m_wd (m_p r 1) (.static Lib.MathLoose.min_long.x) && m_wd (m_p r 4) (.code Lib.MathLoose.min_long.x Lib.MathLoose.min_long.code 4 (some .long))
  | _ => false
def m_rowB (mt : List mMt) (own : String) (ini : Bool) (cc : ByteArray) (R : Room) (q : Nat × mRow) : Bool :=
  decide (decode cc q.1 = .ok (q.2.1, m_len q.2)) && match q.2.1 with
    | .goto o => decide ((q.1 : Int) + o = (q.2.2.2.1 : Int))
    | .ifCond _ o => decide ((q.1 : Int) + o = (q.2.2.2.1 : Int))
    | .if_icmp _ o => decide ((q.1 : Int) + o = (q.2.2.2.1 : Int))
    | .if_acmp _ o => decide ((q.1 : Int) + o = (q.2.2.2.1 : Int))
    | .ifnull o => decide ((q.1 : Int) + o = (q.2.2.2.1 : Int))
    | .ifnonnull o => decide ((q.1 : Int) + o = (q.2.2.2.1 : Int))
    | .tableswitch d _ _ offs => decide (0 ≤ (q.1 : Int) + d) && offs.toList.all (fun o => decide (0 ≤ (q.1 : Int) + o))
    | .ldc i => m_wd (m_p q.2 0) (.constant own i (Int32.ofInt q.2.2.2.2.2.1))
    | .ldc_w i => m_wd (m_p q.2 0) (.constant own i (Int32.ofInt q.2.2.2.2.2.1))
    | .ldc2_w i => m_wd (m_p q.2 0) (.constantLong own i (Int64.ofInt q.2.2.2.2.2.1))
    | .getfield i => match m_cls[q.2.2.2.1]? with
      | some v => decide (q.2.2.2.2.1 < v.2.2) && m_wd (m_p q.2 0) (.fieldLink own i v.1 (v.2.1 q.2.2.2.2.1).2.1 (v.2.1 q.2.2.2.2.1).2.2.1)
      | none => false
    | .putfield i => match m_cls[q.2.2.2.1]? with
      | some v => decide (q.2.2.2.2.1 < v.2.2) && m_wd (m_p q.2 0) (.fieldLink own i v.1 (v.2.1 q.2.2.2.2.1).2.1 (v.2.1 q.2.2.2.2.1).2.2.1) && (decide ((v.2.1 q.2.2.2.2.1).2.2.2 = false) || (ini && decide ((v.2.1 q.2.2.2.2.1).2.2.2 = true ∧ v.1 = own)))
      | none => false
    | .new i => bif Nat.blt q.2.2.2.1 13 then (match m_cls[q.2.2.2.1]? with
        | some v => m_wd (m_p q.2 0) (.classLink own i v.1) && m_wd (m_p q.2 1) (.instantiable v.1 v.2.2) && m_wd (m_p q.2 2) (.initialized v.1)
        | none => false)
      else decide (own = RX11 ∧ 100 ≤ q.2.2.2.1 ∧ q.2.2.2.1 < 103 ∧ i = (m_xk (q.2.2.2.1 - 100)).1) && m_strs.any (fun t => decide (t.2.1 = q.2.2.2.2.1)) && decide (decode cc (q.1 + 3) = .ok (.dup, 1)) &&
        ((decide (decode cc (q.1 + 4) = .ok (.ldc q.2.2.2.2.1, 2)) && decide (decode cc (q.1 + 6) = .ok (.invokespecial (m_xk (q.2.2.2.1 - 100)).2, 3)) && decide (decode cc (q.1 + 9) = .ok (.athrow, 1))) ||
         (decide (decode cc (q.1 + 4) = .ok (.ldc_w q.2.2.2.2.1, 3)) && decide (decode cc (q.1 + 7) = .ok (.invokespecial (m_xk (q.2.2.2.1 - 100)).2, 3)) && decide (decode cc (q.1 + 10) = .ok (.athrow, 1))))
    | .baload => false
    | .bastore => false
    | .newarray t => decide (13 ≤ q.2.2.2.1 ∧ q.2.2.2.1 < 16 ∧ m_aty[q.2.2.2.1 - 13]? = some (newarray.typeOf t)) && m_wd (m_p q.2 0) (.arrayClass (newarray.typeOf t))
    | .multianewarray i d => decide (d = 2 ∧ q.2.2.2.1 = 21) && m_wd (m_p q.2 0) (.classLink own i ("[" ++ (FieldType.array FieldType.int).toString)) && m_od (m_p q.2 1) (.arrayOver (.array .int)) && m_wd (m_p q.2 2) (.arrayClass .int)
    | .anewarray i => decide (16 ≤ q.2.2.2.1 ∧ q.2.2.2.1 < 21) && (match m_cls[m_el q.2.2.2.1]? with
      | some v => decide (m_aty[q.2.2.2.1 - 13]? = some (.object v.1)) && m_wd (m_p q.2 0) (.classLink own i v.1) && m_od (m_p q.2 1) (.arrayOver (.object v.1))
      | none => false)
    | .invokevirtual i => match mt[q.2.2.2.1]?, m_cls[m_p q.2 5]? with
      | some y, some v => decide (v.1 = y.1.cls) && m_wd (m_p q.2 0) (.methodLink own i y.1) && m_wd (m_p q.2 1) (.instanceMethod y.1) && m_wd (m_p q.2 2) (.selects v.1 y.1 y.1) && y.2.2.2.2.2.isEmpty && m_callB R y q.2
      | _, _ => false
    | .invokespecial i => bif Nat.beq q.2.2.2.1 2000 then m_wd (m_p q.2 0) (.methodLink own i objectInit) && m_wd (m_p q.2 1) (.instanceMethod objectInit) && m_wd (m_p q.2 4) (.code objectInit ⟨#[0xb1]⟩ 1 none) && decide (1 ≤ R.frames)
      else match mt[q.2.2.2.1]?, m_cls[m_p q.2 5]? with
      | some y, some v => decide (v.1 = y.1.cls ∧ y.1.name = "<init>" ∧ y.2.2.2.1 = none) && y.2.2.2.2.2.isEmpty && (m_wd (m_p q.2 0) (.methodLink own i y.1) || m_od (m_p q.2 0) (.methodLinkNest own i y.1 RX11)) && m_wd (m_p q.2 1) (.instanceMethod y.1) && m_callB R y q.2
      | _, _ => false
    | .invokestatic i => bif Nat.ble 1000 q.2.2.2.1 then m_mathB own i q.2.2.2.1 q.2 && m_wd (m_p q.2 3) (.initialized "java/lang/Math") && decide (1 ≤ R.frames)
      else match mt[q.2.2.2.1]? with
      | some y => m_wd (m_p q.2 0) (.methodLink own i y.1) && m_wd (m_p q.2 1) (.static y.1) && m_callB R y q.2
      | none => false
    | _ => true
