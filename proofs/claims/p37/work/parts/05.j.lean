/-! the judgement: from every machine state beside (L, st, σ) at pc the machine comes to Qt; the instructions without heap, call or branch -/
theorem m_b32_ok {f : Int32 → Int32 → Int32} {st st' : List mV} (h : m_b32 f st = some st') : ∃ x y s0, st = .inl y :: .inl x :: s0 ∧ st' = .inl (f x y) :: s0 := by
  unfold m_b32 at h
  split at h
  · cases h; exact ⟨_, _, _, rfl, rfl⟩
  · cases h
theorem m_b64_ok {f : Int64 → Int64 → Int64} {st st' : List mV} (h : m_b64 f st = some st') : ∃ x y s0, st = .inr (.inl y) :: .inr (.inl x) :: s0 ∧ st' = .inr (.inl (f x y)) :: s0 := by
  unfold m_b64 at h
  split at h
  · cases h; exact ⟨_, _, _, rfl, rfl⟩
  · cases h
/-- an instruction's length -/
def m_len (r : mRow) : Nat := match r.1 with
  | .bipush _ => 2
  | .ldc _ => 2
  | .iload _ => 2
  | .lload _ => 2
  | .aload _ => 2
  | .istore _ => 2
  | .lstore _ => 2
  | .astore _ => 2
  | .newarray _ => 2
  | .sipush _ => 3
  | .ldc_w _ => 3
  | .ldc2_w _ => 3
  | .iinc _ _ => 3
  | .ifCond _ _ => 3
  | .if_icmp _ _ => 3
  | .if_acmp _ _ => 3
  | .ifnull _ => 3
  | .ifnonnull _ => 3
  | .goto _ => 3
  | .getfield _ => 3
  | .putfield _ => 3
  | .invokevirtual _ => 3
  | .invokespecial _ => 3
  | .invokestatic _ => 3
  | .new _ => 3
  | .anewarray _ => 3
  | .multianewarray _ _ => 4
  | .tableswitch _ _ _ _ => r.2.1
  | _ => 1
/-- what a row owes to the tables, without heap and calls -/
def m_rowP (own : String) (s : State) (args : Array Value) (pc : Nat) (r : mRow) : Prop := match r.1 with
  | .goto o => (pc : Int) + o = (r.2.2.1 : Int)
  | .ifCond _ o => (pc : Int) + o = (r.2.2.1 : Int)
  | .if_icmp _ o => (pc : Int) + o = (r.2.2.1 : Int)
  | .if_acmp _ o => (pc : Int) + o = (r.2.2.1 : Int)
  | .ifnull o => (pc : Int) + o = (r.2.2.1 : Int)
  | .ifnonnull o => (pc : Int) + o = (r.2.2.1 : Int)
  | .tableswitch d _ _ offs => 0 ≤ (pc : Int) + d ∧ ∀ o ∈ offs.toList, 0 ≤ (pc : Int) + o
  | .ldc i => r.2.2.1 = 1 ∨ (Cond.constant own i (Int32.ofInt r.2.2.2.2.1)).before args s = true
  | .ldc_w i => r.2.2.1 = 1 ∨ (Cond.constant own i (Int32.ofInt r.2.2.2.2.1)).before args s = true
  | .ldc2_w i => (Cond.constantLong own i (Int64.ofInt r.2.2.2.2.1)).before args s = true
  | _ => True
theorem m_rr_n {ρ : Nat → Nat → Option Nat} {x : mR} : m_rr ρ x none ↔ x = none := by
  cases x with
  | none => exact ⟨fun _ => rfl, fun _ => trivial⟩
  | some q => exact ⟨fun h => h.elim, fun h => by cases h⟩
theorem m_rr_eq {ρ : Nat → Nat → Option Nat} (hi : ∀ c i c' i' a, ρ c i = some a → ρ c' i' = some a → c = c' ∧ i = i') {x y : mR} {rx ry : Option Nat} (hx : m_rr ρ x rx) (hy : m_rr ρ y ry) : rx = ry ↔ x = y := by
  cases x with
  | none =>
    cases rx with
    | some a => exact hx.elim
    | none =>
      cases y with
      | none =>
        cases ry with
        | none => exact ⟨fun _ => rfl, fun _ => rfl⟩
        | some a => exact hy.elim
      | some q =>
        cases ry with
        | none => exact hy.elim
        | some a => exact ⟨(fun h => by cases h), (fun h => by cases h)⟩
  | some q =>
    cases rx with
    | none => exact hx.elim
    | some a =>
      cases y with
      | none =>
        cases ry with
        | none => exact ⟨(fun h => by cases h), (fun h => by cases h)⟩
        | some b => exact hy.elim
      | some q' =>
        cases ry with
        | none => exact hy.elim
        | some b =>
          have ha : ρ q.1 q.2 = some a := hx
          have hb : ρ q'.1 q'.2 = some b := hy
          constructor
          · intro h
            cases h
            obtain ⟨e1, e2⟩ := hi _ _ _ _ _ ha hb
            exact congrArg some (Prod.ext e1 e2)
          · intro h
            cases h
            exact ha.symm.trans hb
/-- a machine's value of a field or a cell of an array, by the model -/
def m_tt (d : FieldType) : Nat := match d with
  | .int => 0
  | .long => 1
  | .boolean => 3
  | _ => 2
section MJ
variable {p : Program} {l : Launch} {e : Env} {R : Room} {s : State} {m : MethodId} {args : Array Value} {below : List Frame} {meth : Method} {cd : Code} {Qt : State → Prop} {A : Nat → Prop} {ρ0 : Nat → Nat → Option Nat} {X : (Nat → Nat → Option Nat) → mS → Heap → Prop} {cc : ByteArray} {own : String}
/-- X says how the model's heap lies in the machine's -/
def m_J (p : Program) (l : Launch) (e : Env) (R : Room) (s : State) (m : MethodId) (args : Array Value) (below : List Frame) (meth : Method) (cd : Code) (Qt : State → Prop) (A : Nat → Prop) (ρ0 : Nat → Nat → Option Nat) (X : (Nat → Nat → Option Nat) → mS → Heap → Prop)
    (pc : Nat) (L : List (Option mV)) (st : List mV) (σ : mS) (k n : Nat) : Prop :=
  ∀ (ρ : Nat → Nat → Option Nat) (H : Heap) (locs : List Loc) (ls : Array Slot) (sw : List Value), m_le ρ0 ρ → X ρ σ H → (∀ c i a, c ≠ 98 → ρ c i = some a → A a) → va_S A s.heap H locs → m_lr ρ ls L → m_sr ρ st sw →
    W p l e R s m args below meth cd H locs k n Qt (F0 m pc ls sw)
set_option maxHeartbeats 4000000 in
theorem m_j_pure (hx : p.tables.exec = Jvm.exec) (hb : cd.code = cc) (hown : s.vm.findClass own = some m.cls) {r : mRow} {pc pc' k n : Nat} {L L' : List (Option mV)} {st st' : List mV} {σ : mS} (hd : decode cc pc = .ok (r.1, m_len r)) (hr : m_rowP own s args pc r) (hm : m_pure r pc L st = some (pc', L', st')) (K : m_J p l e R s m args below meth cd Qt A ρ0 X pc' L' st' σ k n) : m_J p l e R s m args below meth cd Qt A ρ0 X pc L st σ k n := by
  obtain ⟨ig, ln, ra, rb, rz⟩ := r
  intro ρ H locs ls sw h1 h2 h3 h4 h5 h6
  unfold m_pure at hm
  simp only at hm
  split at hm
  · -- aconst_null
    cases hm
    exact lv_null hx hb hd (K ρ H locs ls _ h1 h2 h3 h4 h5 ⟨rfl, h6⟩)
  · -- iconst
    cases hm
    exact lv_iconst hx hb hd rfl (K ρ H locs ls _ h1 h2 h3 h4 h5 ⟨rfl, h6⟩)
  · -- bipush
    cases hm
    exact lv_bipush hx hb hd rfl (K ρ H locs ls _ h1 h2 h3 h4 h5 ⟨rfl, h6⟩)
  · -- sipush
    cases hm
    exact lv_sipush hx hb hd rfl (K ρ H locs ls _ h1 h2 h3 h4 h5 ⟨rfl, h6⟩)
  · -- lconst
    cases hm
    exact lv_lconst hx hb hd rfl (K ρ H locs ls _ h1 h2 h3 h4 h5 ⟨rfl, h6⟩)
  · -- ldc
    split at hm
    · cases hm
    · rename_i hne
      cases hm
      rcases hr with hr | hr
      · exact absurd hr hne
      · exact lv_ldc hx hb hown hr hd (K ρ H locs ls _ h1 h2 h3 h4 h5 ⟨rfl, h6⟩)
  · -- ldc_w
    split at hm
    · cases hm
    · rename_i hne
      cases hm
      rcases hr with hr | hr
      · exact absurd hr hne
      · exact lv_ldcw hx hb hown hr hd (K ρ H locs ls _ h1 h2 h3 h4 h5 ⟨rfl, h6⟩)
  · -- ldc2_w
    cases hm
    exact lv_ldc2 hx hb hown hr hd (K ρ H locs ls _ h1 h2 h3 h4 h5 ⟨rfl, h6⟩)
  · -- iload
    obtain ⟨rfl, rfl, hm2⟩ := m_nx_ok hm
    obtain ⟨x, hl, rfl⟩ := m_ldi_ok h5 hm2
    exact lv_iload hx hb hd hl (K ρ H locs ls _ h1 h2 h3 h4 h5 ⟨rfl, h6⟩)
  · -- iload_n
    obtain ⟨rfl, rfl, hm2⟩ := m_nx_ok hm
    obtain ⟨x, hl, rfl⟩ := m_ldi_ok h5 hm2
    exact lv_iload_n hx hb hd rfl hl (K ρ H locs ls _ h1 h2 h3 h4 h5 ⟨rfl, h6⟩)
  · -- lload
    obtain ⟨rfl, rfl, hm2⟩ := m_nx_ok hm
    obtain ⟨x, hl, rfl⟩ := m_ldl_ok h5 hm2
    exact lv_lload hx hb hd hl (K ρ H locs ls _ h1 h2 h3 h4 h5 ⟨rfl, h6⟩)
  · -- lload_n
    obtain ⟨rfl, rfl, hm2⟩ := m_nx_ok hm
    obtain ⟨x, hl, rfl⟩ := m_ldl_ok h5 hm2
    exact lv_lload_n hx hb hd rfl hl (K ρ H locs ls _ h1 h2 h3 h4 h5 ⟨rfl, h6⟩)
  · -- aload
    obtain ⟨rfl, rfl, hm2⟩ := m_nx_ok hm
    obtain ⟨x, r, hl, hr, rfl⟩ := m_lda_ok h5 hm2
    have K2 := K ρ H locs ls _ h1 h2 h3 h4 h5 (show m_sr ρ _ (va_rf r :: sw) from ⟨m_rr_v hr, h6⟩)
    cases r with
    | none => exact lv_aloadN hx hb hd hl K2
    | some a => exact lv_aload hx hb hd hl K2
  · -- aload_n
    obtain ⟨rfl, rfl, hm2⟩ := m_nx_ok hm
    obtain ⟨x, r, hl, hr, rfl⟩ := m_lda_ok h5 hm2
    have K2 := K ρ H locs ls _ h1 h2 h3 h4 h5 (show m_sr ρ _ (va_rf r :: sw) from ⟨m_rr_v hr, h6⟩)
    cases r with
    | none => exact lv_aload_nN hx hb hd rfl hl K2
    | some a => exact lv_aload_n hx hb hd rfl hl K2
  · -- istore
    obtain ⟨rfl, hm2⟩ := m_ny_ok hm
    obtain ⟨x, rfl, rfl, hi⟩ := m_sti_ok hm2
    obtain ⟨s', rfl, h7⟩ := m_sr_i h6
    exact lv_istore hx hb hd (m_all_has h5) hi rfl (fun ls' hl => K ρ H locs ls' _ h1 h2 h3 h4 (m_sto_ok h5 (x := .inl x) rfl hl) h7)
  · -- istore_n
    obtain ⟨rfl, hm2⟩ := m_ny_ok hm
    obtain ⟨x, rfl, rfl, hi⟩ := m_sti_ok hm2
    obtain ⟨s', rfl, h7⟩ := m_sr_i h6
    exact lv_istore_n hx hb hd rfl (m_all_has h5) hi rfl (fun ls' hl => K ρ H locs ls' _ h1 h2 h3 h4 (m_sto_ok h5 (x := .inl x) rfl hl) h7)
  · -- lstore
    obtain ⟨rfl, hm2⟩ := m_ny_ok hm
    obtain ⟨x, rfl, rfl, hi⟩ := m_stl_ok hm2
    obtain ⟨s', rfl, h7⟩ := m_sr_l h6
    exact lv_lstore hx hb hd (m_all_has h5) hi rfl (fun ls' hl => K ρ H locs ls' _ h1 h2 h3 h4 (m_sto2_ok h5 (x := .inr (.inl x)) rfl hl) h7)
  · -- lstore_n
    obtain ⟨rfl, hm2⟩ := m_ny_ok hm
    obtain ⟨x, rfl, rfl, hi⟩ := m_stl_ok hm2
    obtain ⟨s', rfl, h7⟩ := m_sr_l h6
    exact lv_lstore_n hx hb hd rfl (m_all_has h5) hi rfl (fun ls' hl => K ρ H locs ls' _ h1 h2 h3 h4 (m_sto2_ok h5 (x := .inr (.inl x)) rfl hl) h7)
  · -- astore
    obtain ⟨rfl, hm2⟩ := m_ny_ok hm
    obtain ⟨x, rfl, rfl, hi⟩ := m_sta_ok hm2
    obtain ⟨r, s', rfl, hr, h7⟩ := m_sr_r h6
    cases r with
    | none => exact lv_astoreN hx hb hd (m_all_has h5) hi rfl (fun ls' hl => K ρ H locs ls' _ h1 h2 h3 h4 (m_sto_ok h5 (m_rr_v hr) hl) h7)
    | some a => exact lv_astore hx hb hd (m_all_has h5) hi rfl (fun ls' hl => K ρ H locs ls' _ h1 h2 h3 h4 (m_sto_ok h5 (m_rr_v hr) hl) h7)
  · -- astore_n
    obtain ⟨rfl, hm2⟩ := m_ny_ok hm
    obtain ⟨x, rfl, rfl, hi⟩ := m_sta_ok hm2
    obtain ⟨r, s', rfl, hr, h7⟩ := m_sr_r h6
    cases r with
    | none => exact lv_astore_nN hx hb hd rfl (m_all_has h5) hi rfl (fun ls' hl => K ρ H locs ls' _ h1 h2 h3 h4 (m_sto_ok h5 (m_rr_v hr) hl) h7)
    | some a => exact lv_astore_n hx hb hd rfl (m_all_has h5) hi rfl (fun ls' hl => K ρ H locs ls' _ h1 h2 h3 h4 (m_sto_ok h5 (m_rr_v hr) hl) h7)
  · -- iinc
    split at hm
    · rename_i x hl
      split at hm
      · rename_i hi
        cases hm
        obtain ⟨w, g1, g2⟩ := h5.2.2 _ _ hl
        cases (show w = .int x from g2)
        obtain ⟨q, hq⟩ := List.getElem?_of_mem (m_all_mem.mpr g1)
        exact lv_iinc hx hb hd (m_all_has h5) hq rfl hi rfl (fun ls' hl => K ρ H locs ls' _ h1 h2 h3 h4 (m_sto_ok h5 (x := .inl _) rfl hl) h6)
      · cases hm
    · cases hm
  · -- iadd
    obtain ⟨rfl, rfl, hm2⟩ := m_nx_ok hm
    obtain ⟨x, y, s0, rfl, rfl⟩ := m_b32_ok hm2
    obtain ⟨_, rfl, h7⟩ := m_sr_i h6
    obtain ⟨_, rfl, h8⟩ := m_sr_i h7
    exact lv_iadd hx hb hd (K ρ H locs ls _ h1 h2 h3 h4 h5 ⟨rfl, h8⟩)
  · -- isub
    obtain ⟨rfl, rfl, hm2⟩ := m_nx_ok hm
    obtain ⟨x, y, s0, rfl, rfl⟩ := m_b32_ok hm2
    obtain ⟨_, rfl, h7⟩ := m_sr_i h6
    obtain ⟨_, rfl, h8⟩ := m_sr_i h7
    exact lv_isub hx hb hd (K ρ H locs ls _ h1 h2 h3 h4 h5 ⟨rfl, h8⟩)
  · -- imul
    obtain ⟨rfl, rfl, hm2⟩ := m_nx_ok hm
    obtain ⟨x, y, s0, rfl, rfl⟩ := m_b32_ok hm2
    obtain ⟨_, rfl, h7⟩ := m_sr_i h6
    obtain ⟨_, rfl, h8⟩ := m_sr_i h7
    exact lv_imul hx hb hd (K ρ H locs ls _ h1 h2 h3 h4 h5 ⟨rfl, h8⟩)
  · -- iand
    obtain ⟨rfl, rfl, hm2⟩ := m_nx_ok hm
    obtain ⟨x, y, s0, rfl, rfl⟩ := m_b32_ok hm2
    obtain ⟨_, rfl, h7⟩ := m_sr_i h6
    obtain ⟨_, rfl, h8⟩ := m_sr_i h7
    exact lv_iand hx hb hd (K ρ H locs ls _ h1 h2 h3 h4 h5 ⟨rfl, h8⟩)
  · -- ixor
    obtain ⟨rfl, rfl, hm2⟩ := m_nx_ok hm
    obtain ⟨x, y, s0, rfl, rfl⟩ := m_b32_ok hm2
    obtain ⟨_, rfl, h7⟩ := m_sr_i h6
    obtain ⟨_, rfl, h8⟩ := m_sr_i h7
    exact lv_ixor hx hb hd (K ρ H locs ls _ h1 h2 h3 h4 h5 ⟨rfl, h8⟩)
  · -- idiv
    split at hm
    · split at hm
      · cases hm
      · rename_i hne
        cases hm
        obtain ⟨_, rfl, h7⟩ := m_sr_i h6
        obtain ⟨_, rfl, h8⟩ := m_sr_i h7
        exact lv_idiv hx hb hd hne (K ρ H locs ls _ h1 h2 h3 h4 h5 ⟨rfl, h8⟩)
    · cases hm
  · -- irem
    split at hm
    · split at hm
      · cases hm
      · rename_i hne
        cases hm
        obtain ⟨_, rfl, h7⟩ := m_sr_i h6
        obtain ⟨_, rfl, h8⟩ := m_sr_i h7
        exact lv_irem hx hb hd hne (K ρ H locs ls _ h1 h2 h3 h4 h5 ⟨rfl, h8⟩)
    · cases hm
  · -- ineg
    split at hm
    · cases hm
      obtain ⟨_, rfl, h7⟩ := m_sr_i h6
      exact lv_ineg hx hb hd (K ρ H locs ls _ h1 h2 h3 h4 h5 ⟨rfl, h7⟩)
    · cases hm
  · -- ladd
    obtain ⟨rfl, rfl, hm2⟩ := m_nx_ok hm
    obtain ⟨x, y, s0, rfl, rfl⟩ := m_b64_ok hm2
    obtain ⟨_, rfl, h7⟩ := m_sr_l h6
    obtain ⟨_, rfl, h8⟩ := m_sr_l h7
    exact lv_ladd hx hb hd (K ρ H locs ls _ h1 h2 h3 h4 h5 ⟨rfl, h8⟩)
  · -- lsub
    obtain ⟨rfl, rfl, hm2⟩ := m_nx_ok hm
    obtain ⟨x, y, s0, rfl, rfl⟩ := m_b64_ok hm2
    obtain ⟨_, rfl, h7⟩ := m_sr_l h6
    obtain ⟨_, rfl, h8⟩ := m_sr_l h7
    exact lv_lsub hx hb hd (K ρ H locs ls _ h1 h2 h3 h4 h5 ⟨rfl, h8⟩)
  · -- lmul
    obtain ⟨rfl, rfl, hm2⟩ := m_nx_ok hm
    obtain ⟨x, y, s0, rfl, rfl⟩ := m_b64_ok hm2
    obtain ⟨_, rfl, h7⟩ := m_sr_l h6
    obtain ⟨_, rfl, h8⟩ := m_sr_l h7
    exact lv_lmul hx hb hd (K ρ H locs ls _ h1 h2 h3 h4 h5 ⟨rfl, h8⟩)
  · -- ldiv
    split at hm
    · split at hm
      · cases hm
      · rename_i hne
        cases hm
        obtain ⟨_, rfl, h7⟩ := m_sr_l h6
        obtain ⟨_, rfl, h8⟩ := m_sr_l h7
        exact lv_ldiv hx hb hd hne (K ρ H locs ls _ h1 h2 h3 h4 h5 ⟨rfl, h8⟩)
    · cases hm
  · -- lrem
    split at hm
    · split at hm
      · cases hm
      · rename_i hne
        cases hm
        obtain ⟨_, rfl, h7⟩ := m_sr_l h6
        obtain ⟨_, rfl, h8⟩ := m_sr_l h7
        exact lv_lrem hx hb hd hne (K ρ H locs ls _ h1 h2 h3 h4 h5 ⟨rfl, h8⟩)
    · cases hm
  · -- lneg
    split at hm
    · cases hm
      obtain ⟨_, rfl, h7⟩ := m_sr_l h6
      exact lv_lneg hx hb hd (K ρ H locs ls _ h1 h2 h3 h4 h5 ⟨rfl, h7⟩)
    · cases hm
  · -- lcmp
    split at hm
    · cases hm
      obtain ⟨_, rfl, h7⟩ := m_sr_l h6
      obtain ⟨_, rfl, h8⟩ := m_sr_l h7
      exact W.lcmp hx hb hd (K ρ H locs ls _ h1 h2 h3 h4 h5 ⟨rfl, h8⟩)
    · cases hm
  · -- i2l
    split at hm
    · cases hm
      obtain ⟨_, rfl, h7⟩ := m_sr_i h6
      exact lv_i2l hx hb hd rfl (K ρ H locs ls _ h1 h2 h3 h4 h5 ⟨rfl, h7⟩)
    · cases hm
  · -- l2i
    split at hm
    · cases hm
      obtain ⟨_, rfl, h7⟩ := m_sr_l h6
      exact lv_l2i hx hb hd rfl (K ρ H locs ls _ h1 h2 h3 h4 h5 ⟨rfl, h7⟩)
    · cases hm
  · -- dup
    split at hm
    · cases hm
      obtain ⟨_, rfl, h7⟩ := m_sr_i h6
      exact lv_dup hx hb hd rfl (K ρ H locs ls _ h1 h2 h3 h4 h5 ⟨rfl, rfl, h7⟩)
    · cases hm
      obtain ⟨r, _, rfl, hr, h7⟩ := m_sr_r h6
      exact lv_dup hx hb hd (m_cat_rf r) (K ρ H locs ls _ h1 h2 h3 h4 h5 ⟨m_rr_v hr, m_rr_v hr, h7⟩)
    · cases hm
  · -- dup2
    split at hm
    · cases hm
      obtain ⟨_, rfl, h7⟩ := m_sr_l h6
      exact lv_dup2_2 hx hb hd rfl (K ρ H locs ls _ h1 h2 h3 h4 h5 ⟨rfl, rfl, h7⟩)
    · cases hm
      obtain ⟨_, rfl, h7⟩ := m_sr_i h6
      obtain ⟨r, _, rfl, hr, h8⟩ := m_sr_r h7
      exact lv_dup2_11 hx hb hd rfl (m_cat_rf r) (K ρ H locs ls _ h1 h2 h3 h4 h5 ⟨rfl, m_rr_v hr, rfl, m_rr_v hr, h8⟩)
    · cases hm
  · -- pop
    split at hm
    · cases hm
      obtain ⟨_, rfl, h7⟩ := m_sr_i h6
      exact lv_pop hx hb hd rfl (K ρ H locs ls _ h1 h2 h3 h4 h5 h7)
    · cases hm
      obtain ⟨r, _, rfl, hr, h7⟩ := m_sr_r h6
      exact lv_pop hx hb hd (m_cat_rf r) (K ρ H locs ls _ h1 h2 h3 h4 h5 h7)
    · cases hm
  · -- pop2
    split at hm
    · cases hm
      obtain ⟨_, rfl, h7⟩ := m_sr_l h6
      exact lv_pop2_2 hx hb hd rfl (K ρ H locs ls _ h1 h2 h3 h4 h5 h7)
    · cases hm
  · -- goto
    cases hm
    exact lv_goto hx hb hd hr (K ρ H locs ls _ h1 h2 h3 h4 h5 h6)
  · -- tableswitch
    split at hm
    · rename_i x s0
      obtain ⟨_, rfl, h7⟩ := m_sr_i h6
      split at hm
      · rename_i hout
        cases hm
        exact lv_tableOut hx hb hd hout (Int.toNat_of_nonneg hr.1).symm (K ρ H locs ls _ h1 h2 h3 h4 h5 h7)
      · rename_i hin
        split at hm
        · rename_i o ho
          cases hm
          exact lv_tableIn hx hb hd (fun q => hin (Or.inl q)) (fun q => hin (Or.inr q)) ho (Int.toNat_of_nonneg (hr.2 o (Array.mem_toList_iff.mpr (Array.mem_of_getElem? ho)))).symm (K ρ H locs ls _ h1 h2 h3 h4 h5 h7)
        · cases hm
    · cases hm
  · -- else
    cases hm
set_option maxHeartbeats 4000000 in
theorem m_j_cond (hx : p.tables.exec = Jvm.exec) (hb : cd.code = cc) {r : mRow} {pc k n : Nat} {L : List (Option mV)} {st st' : List mV} {σ : mS} {P : Prop} (hd : decode cc pc = .ok (r.1, m_len r)) (hr : m_rowP own s args pc r) (hm : m_cond r st = some (P, st')) (hX : ∀ ρ σ H, X ρ σ H → ∀ c i c' i' a, ρ c i = some a → ρ c' i' = some a → c = c' ∧ i = i') (Kt : P → m_J p l e R s m args below meth cd Qt A ρ0 X r.2.2.1 L st' σ k n) (Kf : ¬ P → m_J p l e R s m args below meth cd Qt A ρ0 X (pc + 3) L st' σ k n) : m_J p l e R s m args below meth cd Qt A ρ0 X pc L st σ k n := by
  obtain ⟨ig, ln, ra, rb, rz⟩ := r
  intro ρ H locs ls sw h1 h2 h3 h4 h5 h6
  unfold m_cond at hm
  simp only at hm
  split at hm
  · -- ifCond
    rename_i cnd off
    split at hm
    · rename_i x s0
      cases hm
      obtain ⟨_, rfl, h7⟩ := m_sr_i h6
      have KT := fun q => Kt q ρ H locs ls _ h1 h2 h3 h4 h5 h7
      have KF := fun q => Kf q ρ H locs ls _ h1 h2 h3 h4 h5 h7
      cases cnd
      · exact lv_if_eq hx hb hd hr KT KF
      · exact lv_if_ne hx hb hd hr KT (fun q => KF (fun z => z q))
      · exact lv_if_lt hx hb hd hr KT KF
      · exact lv_if_ge hx hb hd hr KT KF
      · exact lv_if_gt hx hb hd hr KT KF
      · exact lv_if_le hx hb hd hr KT KF
    · cases hm
  · -- if_icmp
    rename_i cnd off
    split at hm
    · rename_i y x s0
      cases hm
      obtain ⟨_, rfl, h7⟩ := m_sr_i h6
      obtain ⟨_, rfl, h8⟩ := m_sr_i h7
      have KT := fun q => Kt q ρ H locs ls _ h1 h2 h3 h4 h5 h8
      have KF := fun q => Kf q ρ H locs ls _ h1 h2 h3 h4 h5 h8
      cases cnd
      · exact lv_icmp_eq hx hb hd hr KT KF
      · exact lv_icmp_ne hx hb hd hr KT (fun q => KF (fun z => z q))
      · exact lv_icmp_lt hx hb hd hr KT KF
      · exact lv_icmp_ge hx hb hd hr KT KF
      · exact lv_icmp_gt hx hb hd hr KT KF
      · exact lv_icmp_le hx hb hd hr KT KF
    · cases hm
  · -- if_acmp
    rename_i cnd off
    split at hm
    · rename_i y x s0
      obtain ⟨ry, _, rfl, hry, h7⟩ := m_sr_r h6
      obtain ⟨rx, _, rfl, hrx, h8⟩ := m_sr_r h7
      have hq : rx = ry ↔ x = y := m_rr_eq (hX ρ σ H h2) hrx hry
      split at hm
      · cases hm
        exact lv_acmp_eq hx hb hd hr (fun q => Kt (hq.mp q) ρ H locs ls _ h1 h2 h3 h4 h5 h8) (fun q => Kf (fun z => q (hq.mpr z)) ρ H locs ls _ h1 h2 h3 h4 h5 h8)
      · cases hm
        exact lv_acmp_ne hx hb hd hr (fun q => Kt (fun z => q (hq.mpr z)) ρ H locs ls _ h1 h2 h3 h4 h5 h8) (fun q => Kf (fun z => z (hq.mp q)) ρ H locs ls _ h1 h2 h3 h4 h5 h8)
    · cases hm
  · -- ifnull
    split at hm
    · rename_i x s0
      cases hm
      obtain ⟨rx, _, rfl, hrx, h7⟩ := m_sr_r h6
      cases rx with
      | none => exact lv_ifnullN hx hb hd hr (Kt (m_rr_n.mp hrx) ρ H locs ls _ h1 h2 h3 h4 h5 h7)
      | some a => exact lv_ifnull hx hb hd (Kf (fun z => by rw [z] at hrx; exact hrx) ρ H locs ls _ h1 h2 h3 h4 h5 h7)
    · cases hm
  · -- ifnonnull
    split at hm
    · rename_i x s0
      cases hm
      obtain ⟨rx, _, rfl, hrx, h7⟩ := m_sr_r h6
      cases rx with
      | none => exact lv_ifnonnullN hx hb hd (Kf (fun z => z (m_rr_n.mp hrx)) ρ H locs ls _ h1 h2 h3 h4 h5 h7)
      | some a => exact lv_ifnonnull hx hb hd hr (Kt (fun z => by rw [z] at hrx; exact hrx) ρ H locs ls _ h1 h2 h3 h4 h5 h7)
    · cases hm
  · -- else
    cases hm
end MJ
