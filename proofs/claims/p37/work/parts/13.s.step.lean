/-! one step of the model: what is owed at an instruction so that its continuation K follows -/
/-- a method's words -/
def m_ws (y : mMt) : List Cond := match y.2.2.2.2.2 with
  | [] => m_W y.1 y.2.1 y.2.2.1 y.2.2.2.1
  | hh => Cond.codeWith y.1 y.2.1 y.2.2.1 y.2.2.2.1 hh :: m_BIG
def m_take (st : List mV) (r : mRow) : List mV := (st.take r.2.2.2.1).reverse
/-- what is owed of the room that is used -/
def m_rm (R : Room) (k n : Nat) : Prop := k ≤ R.cells ∧ n ≤ R.slots
def m_s_get (r : mRow) (σ : mS) (st : List mV) (F : List mV → Prop) : Prop := match st with
  | .inr (.inr (some q)) :: st => q.1 = r.2.2.1 ∧ F (m_get σ r.2.2.1 q.2 r.2.2.2.1 :: st)
  | _ => False
def m_s_put (r : mRow) (σ : mS) (st : List mV) (F : List mV → mS → Prop) : Prop := match st with
  | x :: .inr (.inr (some q)) :: st => q.1 = r.2.2.1 ∧ m_tp (m_ty r.2.2.1 r.2.2.2.1) x ∧ F st (m_set σ r.2.2.1 q.2 r.2.2.2.1 x)
  | _ => False
/-- the law's own script: its length, a load -/
def m_s_xlen (xs : Option (Nat × (Nat → Int32))) (st : List mV) (F : List mV → Prop) : Prop := match xs, st with
  | some z, _ :: st => z.1 < 2147483648 ∧ F (.inl (Int32.ofNat z.1) :: st)
  | _, _ => False
def m_s_xld (xs : Option (Nat × (Nat → Int32))) (st : List mV) (F : List mV → Prop) : Prop := match xs, st with
  | some z, .inl x :: _ :: st => vp_in x z.1 ∧ F (.inl (z.2 x.toNatClampNeg) :: st)
  | _, _ => False
def m_isx (st : List mV) (i : Nat) : Bool := match st.drop i with
  | .inr (.inr (some q)) :: _ => Nat.beq q.1 98
  | _ => false
def m_s_len (σ : mS) (st : List mV) (F : List mV → Prop) : Prop := match st with
  | .inr (.inr (some q)) :: st => (13 ≤ q.1 ∧ q.1 ≤ 21) ∧ F (.inl (Int32.ofNat (σ.2.1 q.1 q.2)) :: st)
  | _ => False
/-- a load from an array of the class c -/
def m_s_ald (c : Nat) (σ : mS) (st : List mV) (F : List mV → Prop) : Prop := match st with
  | .inl x :: .inr (.inr (some q)) :: st => q.1 = c ∧ vp_in x (σ.2.1 c q.2) ∧ F (m_get σ c q.2 x.toNatClampNeg :: st)
  | _ => False
def m_s_aldq (σ : mS) (st : List mV) (F : List mV → Prop) : Prop := match st with
  | .inl x :: .inr (.inr (some q)) :: st => (16 ≤ q.1 ∧ q.1 ≤ 21) ∧ vp_in x (σ.2.1 q.1 q.2) ∧ F (m_get σ q.1 q.2 x.toNatClampNeg :: st)
  | _ => False
def m_s_iast (σ : mS) (st : List mV) (F : List mV → mS → Prop) : Prop := match st with
  | .inl v :: .inl x :: .inr (.inr (some q)) :: st => q.1 = 13 ∧ vp_in x (σ.2.1 13 q.2) ∧ F st (m_set σ 13 q.2 x.toNatClampNeg (.inl v))
  | _ => False
def m_s_zast (σ : mS) (st : List mV) (F : List mV → mS → Prop) : Prop := match st with
  | .inl v :: .inl x :: .inr (.inr (some q)) :: st => q.1 = 15 ∧ (v = 0 ∨ v = 1) ∧ vp_in x (σ.2.1 15 q.2) ∧ F st (m_set σ 15 q.2 x.toNatClampNeg (.inl v))
  | _ => False
def m_s_last (σ : mS) (st : List mV) (F : List mV → mS → Prop) : Prop := match st with
  | .inr (.inl v) :: .inl x :: .inr (.inr (some q)) :: st => q.1 = 14 ∧ vp_in x (σ.2.1 14 q.2) ∧ F st (m_set σ 14 q.2 x.toNatClampNeg (.inr (.inl v)))
  | _ => False
def m_s_astq (σ : mS) (st : List mV) (F : List mV → mS → Prop) : Prop := match st with
  | .inr (.inr (some d)) :: .inl x :: .inr (.inr (some q)) :: st => d.1 = m_el q.1 ∧ (16 ≤ q.1 ∧ q.1 ≤ 20) ∧ vp_in x (σ.2.1 q.1 q.2) ∧ F st (m_set σ q.1 q.2 x.toNatClampNeg (.inr (.inr (some d))))
  | _ => False
def m_s_newa (R : Room) (r : mRow) (σ : mS) (st : List mV) (k n : Nat) (F : List mV → mS → Nat → Prop) : Prop := match st with
  | .inl x :: st => ¬ x < 0 ∧ x.toNatClampNeg ≤ 1000000 ∧ m_rm R (k + 1) (n + x.toNatClampNeg) ∧ F (.inr (.inr (some (r.2.2.1, σ.1 r.2.2.1))) :: st) (m_nu σ r.2.2.1 x.toNatClampNeg) (n + x.toNatClampNeg)
  | _ => False
/-- the heap behind new int[4][3] -/
def m_mn (σ : mS) : mS := (fun c => if c = 13 then σ.1 13 + 4 else if c = 21 then σ.1 21 + 1 else σ.1 c, fun c i => if c = 13 ∧ σ.1 13 ≤ i then 3 else if c = 21 ∧ i = σ.1 21 then 4 else σ.2.1 c i, fun c i k => if c = 13 ∧ σ.1 13 ≤ i then 0 else σ.2.2.1 c i k, σ.2.2.2.1, fun c i k => if c = 21 ∧ i = σ.1 21 then some (13, σ.1 13 + k) else σ.2.2.2.2 c i k)
def m_s_mna (R : Room) (σ : mS) (st : List mV) (k n : Nat) (F : List mV → mS → Prop) : Prop := match st with
  | .inl y :: .inl x :: st => y = 3 ∧ x = 4 ∧ m_rm R (k + 5) (n + 16) ∧ F (.inr (.inr (some (21, σ.1 21))) :: st) (m_mn σ)
  | _ => False
def m_nf (c : Nat) : Nat := match m_cls[c]? with
  | some v => v.2.2
  | none => 0
/-- what a call's end owes -/
def m_s_end (T : mS → Nat → Nat → Nat → Prop) (F : List mV → mS → Nat → Nat → Prop) (st : List mV) (k n : Nat) (y : mMt) : mX → mS → Prop := fun x σ' => match x with
  | .inl v => F (v.toList ++ st) σ' (k + y.2.2.2.2.1.cells) (n + y.2.2.2.2.1.slots)
  | .inr x => T σ' (k + y.2.2.2.2.1.cells) (n + y.2.2.2.2.1.slots) x
def m_s_callV (CC : Nat → List mV → mS → (mX → mS → Prop) → Prop) (R : Room) (T : mS → Nat → Nat → Nat → Prop) (y : mMt) (r : mRow) (σ : mS) (st : List mV) (k n : Nat) (F : List mV → mS → Nat → Nat → Prop) : Prop := match st.drop r.2.2.2.1 with
  | .inr (.inr (some q)) :: st' => q.1 = m_p r 5 ∧ (st.take r.2.2.2.1).length = r.2.2.2.1 ∧ (st'.map m_cat).sum ≤ 8 ∧ m_rm R (k + y.2.2.2.2.1.cells) (n + y.2.2.2.2.1.slots) ∧ CC r.2.2.1 (.inr (.inr (some (m_p r 5, q.2))) :: m_take st r) σ (m_s_end T F st' k n y)
  | _ => False
def m_s_callS (CC : Nat → List mV → mS → (mX → mS → Prop) → Prop) (R : Room) (T : mS → Nat → Nat → Nat → Prop) (y : mMt) (r : mRow) (σ : mS) (st : List mV) (k n : Nat) (F : List mV → mS → Nat → Nat → Prop) : Prop :=
  (st.take r.2.2.2.1).length = r.2.2.2.1 ∧ ((st.drop r.2.2.2.1).map m_cat).sum ≤ 8 ∧ m_rm R (k + y.2.2.2.2.1.cells) (n + y.2.2.2.2.1.slots) ∧ CC r.2.2.1 (m_take st r) σ (m_s_end T F (st.drop r.2.2.2.1) k n y)
/-- Math's own -/
def m_s_math (R : Room) (a : Nat) (st : List mV) (F : List mV → Prop) : Prop := match a, st with
  | 1000, .inl y :: .inl x :: st => (st.map m_cat).sum + 13 ≤ R.locals ∧ F (.inl (if x < y then y else x) :: st)
  | 1001, .inl y :: .inl x :: st => (st.map m_cat).sum + 13 ≤ R.locals ∧ F (.inl (if y < x then y else x) :: st)
  | 1002, .inl x :: st => (st.map m_cat).sum + 13 ≤ R.locals ∧ F (.inl (if 0 ≤ x then x else 0 - x) :: st)
  | 1003, .inr (.inl y) :: .inr (.inl x) :: st => (st.map m_cat).sum + 15 ≤ R.locals ∧ F (.inr (.inl (if y < x then x else y)) :: st)
  | 1004, .inr (.inl y) :: .inr (.inl x) :: st => (st.map m_cat).sum + 15 ≤ R.locals ∧ F (.inr (.inl (if y < x then y else x)) :: st)
  | _, _ => False
def m_s_obj (R : Room) (st : List mV) (F : List mV → Prop) : Prop := match st with
  | .inr (.inr (some _)) :: st => (st.map m_cat).sum + 12 ≤ R.locals ∧ F st
  | _ => False
def m_s_iret (rt : Option FieldType) (st : List mV) (F : Int32 → Prop) : Prop := match st with
  | [.inl v] => (rt = some .int ∨ (rt = some .boolean ∧ (v = 0 ∨ v = 1))) ∧ F v
  | _ => False
def m_s_lret (rt : Option FieldType) (st : List mV) (F : Int64 → Prop) : Prop := match st with
  | [.inr (.inl v)] => rt = some .long ∧ F v
  | _ => False
def m_isr (rt : Option FieldType) : Bool := match rt with
  | some (.object _) => true
  | some (.array _) => true
  | _ => false
def m_s_aret (rt : Option FieldType) (st : List mV) (F : mR → Prop) : Prop := match st with
  | [.inr (.inr v)] => m_isr rt = true ∧ F v
  | _ => False
def m_s_bare (r : mRow) (pc : Nat) (L : List (Option mV)) (st : List mV) (F : Nat → List (Option mV) → List mV → Prop) : Prop := match m_cond r st with
  | some q => (q.1 → F r.2.2.1 L q.2) ∧ (¬ q.1 → F (pc + 3) L q.2)
  | none => match m_pure r pc L st with
    | some q => F q.1 q.2.1 q.2.2
    | none => False
def m_step (mt : List mMt) (CC : Nat → List mV → mS → (mX → mS → Prop) → Prop) (rt : Option FieldType) (R : Room) (nL : Nat) (rows : List (Nat × mRow)) (mc ms : Nat) (Q : mX → mS → Prop) (xs : Option (Nat × (Nat → Int32))) (T : Nat → List (Option mV) → mS → Nat → Nat → Nat → Prop) (K : Nat → List (Option mV) → List mV → mS → Nat → Nat → Prop) (pc : Nat) (L : List (Option mV)) (st : List mV) (σ : mS) (k n : Nat) : Prop :=
  match m_at rows pc with
  | none => False
  | some r => match r.1 with
    | .getfield _ => m_s_get r σ st (fun st => K (pc + 3) L st σ k n)
    | .putfield _ => m_s_put r σ st (fun st σ => K (pc + 3) L st σ k n)
    | .arraylength => bif m_isx st 0 then m_s_xlen xs st (fun st => K (pc + 1) L st σ k n) else m_s_len σ st (fun st => K (pc + 1) L st σ k n)
    | .iaload => bif m_isx st 1 then m_s_xld xs st (fun st => K (pc + 1) L st σ k n) else m_s_ald 13 σ st (fun st => K (pc + 1) L st σ k n)
    | .laload => m_s_ald 14 σ st (fun st => K (pc + 1) L st σ k n)
    | .baload => m_s_ald 15 σ st (fun st => K (pc + 1) L st σ k n)
    | .aaload => m_s_aldq σ st (fun st => K (pc + 1) L st σ k n)
    | .iastore => m_s_iast σ st (fun st σ => K (pc + 1) L st σ k n)
    | .lastore => m_s_last σ st (fun st σ => K (pc + 1) L st σ k n)
    | .bastore => m_s_zast σ st (fun st σ => K (pc + 1) L st σ k n)
    | .aastore => m_s_astq σ st (fun st σ => K (pc + 1) L st σ k n)
    | .new _ => if r.2.2.1 < 13 then m_rm R (k + 1) (n + m_nf r.2.2.1) ∧ K (pc + 3) L (.inr (.inr (some (r.2.2.1, σ.1 r.2.2.1))) :: st) (m_nu σ r.2.2.1 0) (k + 1) (n + m_nf r.2.2.1)
      else L.length = nL ∧ 5 < R.frames ∧ (st.map m_cat).sum + 82 ≤ R.locals ∧ m_rm R (k + 1) (n + 6) ∧ k + 1 ≤ mc ∧ n + 6 ≤ ms ∧ Q (.inr (r.2.2.1 - 100)) σ
    | .newarray _ => m_s_newa R r σ st k n (fun st σ n => K (pc + 2) L st σ (k + 1) n)
    | .anewarray _ => m_s_newa R r σ st k n (fun st σ n => K (pc + 3) L st σ (k + 1) n)
    | .multianewarray _ _ => m_s_mna R σ st k n (fun st σ => K (pc + 4) L st σ (k + 5) (n + 16))
    | .invokevirtual _ => L.length = nL ∧ match mt[r.2.2.1]? with
      | some y => m_s_callV CC R (T pc L) y r σ st k n (fun st σ k n => K (pc + 3) L st σ k n)
      | none => False
    | .invokespecial _ => L.length = nL ∧ if r.2.2.1 = 2000 then m_s_obj R st (fun st => K (pc + 3) L st σ k n) else match mt[r.2.2.1]? with
      | some y => m_s_callV CC R (T pc L) y r σ st k n (fun st σ k n => K (pc + 3) L st σ k n)
      | none => False
    | .invokestatic _ => L.length = nL ∧ m_rm R k n ∧ if 1000 ≤ r.2.2.1 then m_s_math R r.2.2.1 st (fun st => K (pc + 3) L st σ k n) else match mt[r.2.2.1]? with
      | some y => m_s_callS CC R (T pc L) y r σ st k n (fun st σ k n => K (pc + 3) L st σ k n)
      | none => False
    | .ireturn => k ≤ mc ∧ n ≤ ms ∧ m_s_iret rt st (fun v => Q (.inl (some (.inl v))) σ)
    | .lreturn => k ≤ mc ∧ n ≤ ms ∧ m_s_lret rt st (fun v => Q (.inl (some (.inr (.inl v)))) σ)
    | .areturn => k ≤ mc ∧ n ≤ ms ∧ m_s_aret rt st (fun v => Q (.inl (some (.inr (.inr v)))) σ)
    | .return_ => k ≤ mc ∧ n ≤ ms ∧ rt = none ∧ st = [] ∧ Q (.inl none) σ
    | _ => m_s_bare r pc L st (fun pc L st => K pc L st σ k n)
/-- steps, up to one of the cuts -/
def m_run (mt : List mMt) (CC : Nat → List mV → mS → (mX → mS → Prop) → Prop) (rt : Option FieldType) (R : Room) (nL : Nat) (rows : List (Nat × mRow)) (mc ms : Nat) (Q : mX → mS → Prop) (xs : Option (Nat × (Nat → Int32))) (T : Nat → List (Option mV) → mS → Nat → Nat → Nat → Prop) (K : Nat → List (Option mV) → List mV → mS → Nat → Nat → Prop) (cuts : List Nat) : Nat → Nat → List (Option mV) → List mV → mS → Nat → Nat → Prop
  | 0 => K
  | f + 1 => fun pc L st σ k n => bif cuts.contains pc then K pc L st σ k n else m_step mt CC rt R nL rows mc ms Q xs T (m_run mt CC rt R nL rows mc ms Q xs T K cuts f) pc L st σ k n
/-- a step that needs no script is a step with any -/
theorem m_step_none {mt : List mMt} {CC : Nat → List mV → mS → (mX → mS → Prop) → Prop} {rt : Option FieldType} {R : Room} {nL : Nat} {rows : List (Nat × mRow)} {mc ms : Nat} {Q : mX → mS → Prop} {xs : Option (Nat × (Nat → Int32))} {T : Nat → List (Option mV) → mS → Nat → Nat → Nat → Prop} {K : Nat → List (Option mV) → List mV → mS → Nat → Nat → Prop} {pc : Nat} {L : List (Option mV)} {st : List mV} {σ : mS} {k n : Nat}
    (h : m_step mt CC rt R nL rows mc ms Q none T K pc L st σ k n) : m_step mt CC rt R nL rows mc ms Q xs T K pc L st σ k n := by
  unfold m_step at h ⊢
  cases hr : m_at rows pc with
  | none => rw [hr] at h; exact h.elim
  | some r =>
    rw [hr] at h
    obtain ⟨ig, ln, ra, rb, rz, rp⟩ := r
    dsimp only at h ⊢
    cases ig with
    | arraylength =>
      dsimp only at h ⊢
      cases hx9 : m_isx st 0 with
      | true => rw [hx9] at h; exact h.elim
      | false => rw [hx9] at h; exact h
    | iaload =>
      dsimp only at h ⊢
      cases hx9 : m_isx st 1 with
      | true => rw [hx9] at h; exact h.elim
      | false => rw [hx9] at h; exact h
    | _ => exact h
