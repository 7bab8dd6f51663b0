/-! the memory model: classes and numbers instead of addresses; field by field -/
/-- a reference of the model: class and number, or null -/
abbrev mR : Type := Option (Nat × Nat)
abbrev mV : Type := Int32 ⊕ Int64 ⊕ mR
/-- how many of each class there are; the arrays' lengths; ints, longs, references: by class, field (or index), number -/
abbrev mS : Type := (Nat → Nat) × (Nat → Nat → Nat) × (Nat → Nat → Nat → Int32) × (Nat → Nat → Nat → Int64) × (Nat → Nat → Nat → mR)
/-- how a method ends: it returns, or throws one of its exceptions -/
abbrev mX : Type := Option mV ⊕ Nat
def m_up {α : Type} (f : Nat → Nat → Nat → α) (c k i : Nat) (v : α) : Nat → Nat → Nat → α := fun c' k' i' => if c' = c then (if k' = k then (if i' = i then v else f c' k' i') else f c' k' i') else f c' k' i'
def m_ci (σ : mS) (c k i : Nat) (v : Int32) : mS := (σ.1, σ.2.1, m_up σ.2.2.1 c k i v, σ.2.2.2.1, σ.2.2.2.2)
def m_cl (σ : mS) (c k i : Nat) (v : Int64) : mS := (σ.1, σ.2.1, σ.2.2.1, m_up σ.2.2.2.1 c k i v, σ.2.2.2.2)
def m_cr (σ : mS) (c k i : Nat) (v : mR) : mS := (σ.1, σ.2.1, σ.2.2.1, σ.2.2.2.1, m_up σ.2.2.2.2 c k i v)
def m_i (σ : mS) (c k i : Nat) : Int32 := σ.2.2.1 c k i
def m_l (σ : mS) (c k i : Nat) : Int64 := σ.2.2.2.1 c k i
def m_r (σ : mS) (c k i : Nat) : mR := σ.2.2.2.2 c k i
/-- one more of a class, of a length -/
def m_new (σ : mS) (c n : Nat) : mS := (fun c' => if c' = c then σ.1 c' + 1 else σ.1 c', fun c' i' => if c' = c then (if i' = σ.1 c then n else σ.2.1 c' i') else σ.2.1 c' i', σ.2.2)
/-- an instruction, its length, three numbers that the tables say of it -/
abbrev mRow : Type := Instr × Nat × Nat × Nat × Int × List Nat
def m_at : List (Nat × mRow) → Nat → Option mRow
  | [], _ => none
  | q :: t, pc => bif Nat.beq q.1 pc then some q.2 else m_at t pc
def m_ld (L : List (Option mV)) (i : Nat) : Option mV := match L[i]? with
  | some (some x) => some x
  | _ => none
def m_clr (L : List (Option mV)) (i : Nat) : List (Option mV) := match i with
  | 0 => L
  | j + 1 => match m_ld L j with
    | some (.inr (.inl _)) => L.set j none
    | _ => L
def m_sto (L : List (Option mV)) (i : Nat) (x : mV) : List (Option mV) := (m_clr L i).set i (some x)
def m_sto2 (L : List (Option mV)) (i : Nat) (x : mV) : List (Option mV) := (m_sto L i x).set (i + 1) none
def m_ldi (L : List (Option mV)) (i : Nat) (st : List mV) : Option (List mV) := match m_ld L i with
  | some (.inl x) => some (.inl x :: st)
  | _ => none
def m_ldl (L : List (Option mV)) (i : Nat) (st : List mV) : Option (List mV) := match m_ld L i with
  | some (.inr (.inl x)) => some (.inr (.inl x) :: st)
  | _ => none
def m_lda (L : List (Option mV)) (i : Nat) (st : List mV) : Option (List mV) := match m_ld L i with
  | some (.inr (.inr x)) => some (.inr (.inr x) :: st)
  | _ => none
def m_sti (L : List (Option mV)) (i : Nat) (st : List mV) : Option (List (Option mV) × List mV) := match st with
  | .inl x :: st => if i < L.length then some (m_sto L i (.inl x), st) else none
  | _ => none
def m_stl (L : List (Option mV)) (i : Nat) (st : List mV) : Option (List (Option mV) × List mV) := match st with
  | .inr (.inl x) :: st => if i + 1 < L.length then some (m_sto2 L i (.inr (.inl x)), st) else none
  | _ => none
def m_sta (L : List (Option mV)) (i : Nat) (st : List mV) : Option (List (Option mV) × List mV) := match st with
  | .inr (.inr x) :: st => if i < L.length then some (m_sto L i (.inr (.inr x)), st) else none
  | _ => none
def m_nx {α : Type} (pc : Nat) (L : α) (o : Option (List mV)) : Option (Nat × α × List mV) := match o with
  | some st => some (pc, L, st)
  | none => none
def m_ny {α : Type} (pc : Nat) (o : Option (α × List mV)) : Option (Nat × α × List mV) := match o with
  | some q => some (pc, q.1, q.2)
  | none => none
def m_b32 (f : Int32 → Int32 → Int32) (st : List mV) : Option (List mV) := match st with
  | .inl y :: .inl x :: st => some (.inl (f x y) :: st)
  | _ => none
def m_b64 (f : Int64 → Int64 → Int64) (st : List mV) : Option (List mV) := match st with
  | .inr (.inl y) :: .inr (.inl x) :: st => some (.inr (.inl (f x y)) :: st)
  | _ => none
/-- what takes neither the heap nor a branch -/
def m_pure (r : mRow) (pc : Nat) (L : List (Option mV)) (st : List mV) : Option (Nat × List (Option mV) × List mV) :=
  match r.1 with
  | .aconst_null => some (pc + 1, L, .inr (.inr none) :: st)
  | .iconst n => some (pc + 1, L, .inl (Int32.ofInt n) :: st)
  | .bipush n => some (pc + 2, L, .inl (Int8.ofInt n).toInt32 :: st)
  | .sipush n => some (pc + 3, L, .inl (Int16.ofInt n).toInt32 :: st)
  | .lconst n => some (pc + 1, L, .inr (.inl (Int64.ofNat (n : Nat))) :: st)
  | .ldc _ => if r.2.2.1 = 1 then none else some (pc + 2, L, .inl (Int32.ofInt r.2.2.2.2.1) :: st)
  | .ldc_w _ => if r.2.2.1 = 1 then none else some (pc + 3, L, .inl (Int32.ofInt r.2.2.2.2.1) :: st)
  | .ldc2_w _ => some (pc + 3, L, .inr (.inl (Int64.ofInt r.2.2.2.2.1)) :: st)
  | .iload i => m_nx (pc + 2) L (m_ldi L i st)
  | .iload_n i => m_nx (pc + 1) L (m_ldi L i st)
  | .lload i => m_nx (pc + 2) L (m_ldl L i st)
  | .lload_n i => m_nx (pc + 1) L (m_ldl L i st)
  | .aload i => m_nx (pc + 2) L (m_lda L i st)
  | .aload_n i => m_nx (pc + 1) L (m_lda L i st)
  | .istore i => m_ny (pc + 2) (m_sti L i st)
  | .istore_n i => m_ny (pc + 1) (m_sti L i st)
  | .lstore i => m_ny (pc + 2) (m_stl L i st)
  | .lstore_n i => m_ny (pc + 1) (m_stl L i st)
  | .astore i => m_ny (pc + 2) (m_sta L i st)
  | .astore_n i => m_ny (pc + 1) (m_sta L i st)
  | .iinc i n => match m_ld L i with
    | some (.inl x) => if i < L.length then some (pc + 3, m_sto L i (.inl (x + Int32.ofInt n)), st) else none
    | _ => none
  | .iadd => m_nx (pc + 1) L (m_b32 (fun x y => x + y) st)
  | .isub => m_nx (pc + 1) L (m_b32 (fun x y => x - y) st)
  | .imul => m_nx (pc + 1) L (m_b32 (fun x y => x * y) st)
  | .iand => m_nx (pc + 1) L (m_b32 (fun x y => x &&& y) st)
  | .ixor => m_nx (pc + 1) L (m_b32 (fun x y => x ^^^ y) st)
  | .idiv => match st with
    | .inl y :: .inl x :: st => if y = 0 then none else some (pc + 1, L, .inl (x / y) :: st)
    | _ => none
  | .irem => match st with
    | .inl y :: .inl x :: st => if y = 0 then none else some (pc + 1, L, .inl (x - x / y * y) :: st)
    | _ => none
  | .ineg => match st with
    | .inl x :: st => some (pc + 1, L, .inl (-x) :: st)
    | _ => none
  | .ladd => m_nx (pc + 1) L (m_b64 (fun x y => x + y) st)
  | .lsub => m_nx (pc + 1) L (m_b64 (fun x y => x - y) st)
  | .lmul => m_nx (pc + 1) L (m_b64 (fun x y => x * y) st)
  | .ldiv => match st with
    | .inr (.inl y) :: .inr (.inl x) :: st => if y = 0 then none else some (pc + 1, L, .inr (.inl (x / y)) :: st)
    | _ => none
  | .lrem => match st with
    | .inr (.inl y) :: .inr (.inl x) :: st => if y = 0 then none else some (pc + 1, L, .inr (.inl (x - x / y * y)) :: st)
    | _ => none
  | .lneg => match st with
    | .inr (.inl x) :: st => some (pc + 1, L, .inr (.inl (-x)) :: st)
    | _ => none
  | .lcmp => match st with
    | .inr (.inl y) :: .inr (.inl x) :: st => some (pc + 1, L, .inl (lg_cmp x y) :: st)
    | _ => none
  | .i2l => match st with
    | .inl x :: st => some (pc + 1, L, .inr (.inl x.toInt64) :: st)
    | _ => none
  | .l2i => match st with
    | .inr (.inl x) :: st => some (pc + 1, L, .inl x.toInt32 :: st)
    | _ => none
  | .dup => match st with
    | .inl x :: st => some (pc + 1, L, .inl x :: .inl x :: st)
    | .inr (.inr x) :: st => some (pc + 1, L, .inr (.inr x) :: .inr (.inr x) :: st)
    | _ => none
  | .dup2 => match st with
    | .inr (.inl x) :: st => some (pc + 1, L, .inr (.inl x) :: .inr (.inl x) :: st)
    | .inl y :: .inr (.inr x) :: st => some (pc + 1, L, .inl y :: .inr (.inr x) :: .inl y :: .inr (.inr x) :: st)
    | _ => none
  | .pop => match st with
    | .inl _ :: st => some (pc + 1, L, st)
    | .inr (.inr _) :: st => some (pc + 1, L, st)
    | _ => none
  | .pop2 => match st with
    | .inr (.inl _) :: st => some (pc + 1, L, st)
    | _ => none
  | .goto _ => some (r.2.2.1, L, st)
  | .tableswitch dflt lo hi offs => match st with
    | .inl x :: st => if x.toInt < lo ∨ hi < x.toInt then some (((pc : Int) + dflt).toNat, L, st) else match offs[(x.toInt - lo).toNat]? with
      | some o => some (((pc : Int) + o).toNat, L, st)
      | none => none
    | _ => none
  | _ => none
def m_ic (c : ClassFile.Cond) (x y : Int32) : Prop := match c with
  | .eq => x = y
  | .ne => ¬ x = y
  | .lt => x < y
  | .ge => y ≤ x
  | .gt => y < x
  | .le => x ≤ y
def m_cond (r : mRow) (st : List mV) : Option (Prop × List mV) :=
  match r.1 with
  | .ifCond c _ => match st with
    | .inl x :: st => some (m_ic c x 0, st)
    | _ => none
  | .if_icmp c _ => match st with
    | .inl y :: .inl x :: st => some (m_ic c x y, st)
    | _ => none
  | .if_acmp c _ => match st with
    | .inr (.inr y) :: .inr (.inr x) :: st => match c with
      | .eq => some (x = y, st)
      | .ne => some (¬ x = y, st)
    | _ => none
  | .ifnull _ => match st with
    | .inr (.inr x) :: st => some (x = none, st)
    | _ => none
  | .ifnonnull _ => match st with
    | .inr (.inr x) :: st => some (¬ x = none, st)
    | _ => none
  | _ => none
