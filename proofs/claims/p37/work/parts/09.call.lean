/-! contracts; returns, calls, throws -/
theorem m_AOA_moved {t : FieldType} {u U : State} (hvm : u.vm.Alike U.vm) (h : va_Nw (.arrayOver (.array t)) u) : va_Nw (.arrayOver (.array t)) U := by
  obtain ⟨comp, c, k, h1, h2, h3, h4, h5⟩ := arrayOverA_spec h
  obtain ⟨k', hk', he⟩ := hvm.2.2 _ _ h3
  have hi : (U.vm.classes.findIdx? fun (x : Class) => match x.kind with | .array component _ => component == comp | _ => false) = some c := by
    rw [hvm.findIdx?_eq _ (fun _ => rfl)]; exact h2
  have hkind : k'.kind = .array comp (.array t) := by rw [he]; exact h4
  have f1 : U.vm.findClass (FieldType.array t).toString = some comp := by rw [hvm.findClass]; exact h1
  have f2 : U.vm.findClass ("[" ++ (FieldType.array t).toString) = some c := by rw [hvm.findClass]; exact h5
  show (Cond.arrayOver (.array t)).before #[] U = true
  unfold Cond.before Cond.holds
  simp only [Cond.value]
  rw [f1, Option.bind_some]
  refine (congrArg (fun o : Option Nat => (o.bind (fun c => (U.vm.classes[c]?).map fun (k : Class) => match k.kind with | .array _ ty => decide (ty = FieldType.array t) && decide (U.vm.findClass ("[" ++ (FieldType.array t).toString) = some c) | _ => false) == some true)) hi).trans ?_
  simp [hk', hkind, f2]
theorem m_odd_moved {w : Cond} (hw : m_oddk w = true) {s U : State} (hW : s.WarmedH U.vm) (h : va_Nw w s) : va_Nw w U := by
  cases w with
  | castable a b => exact va_Nw.warmC hW h
  | declares a => exact va_Nw.warmD hW h
  | methodLinkNest a b c d => exact va_Nw.warmM hW h
  | arrayOver t =>
    cases t with
    | object C => exact va_AO.moved hW.alike h
    | array t => exact m_AOA_moved hW.alike h
    | _ => cases hw
  | _ => cases hw
/-- what a method takes from the tables and the library's own cells -/
def m_En (D : va_G) (ty : List (ClassId × FieldType)) (A : Nat → Prop) (U : State) : Prop :=
  va_K D m_cls ty U ∧ ty.map (fun q => q.2) = m_aty ∧ (∀ w ∈ m_ODD, va_Nw w U) ∧ vx_Zq Bundle.tN "UNASSIGNED_STACK" Bundle.steD A U U.heap ∧ vx_Zq Bundle.tN "SUPPRESSED_SENTINEL" Bundle.listD A U U.heap ∧ (∀ q ∈ m_strs, ∃ a, vk_R q.1 q.2.1 q.2.2 a U) ∧ ∀ x y, x < 3 → y < 3 → x ≠ y → va_Nc (m_xn x) (m_xn y) U
theorem m_En.moved {D : va_G} {ty : List (ClassId × FieldType)} {A : Nat → Prop} {s U : State} (h : m_En D ty A s) (hW : s.WarmedH U.vm) (hq : ∀ a, a < s.heap.size → ¬ A a → U.heap[a]? = s.heap[a]?) : m_En D ty A U := by
  obtain ⟨h1, h2, h3, h4, h5, h6, h7⟩ := h
  exact ⟨h1.moved hW.alike, h2, fun w hw => m_odd_moved (List.mem_filter.mp hw).2 hW (h3 w hw), (h4.moved hW.alike).kept hq, (h5.moved hW.alike).kept hq, fun q hq => (by obtain ⟨a, ha⟩ := h6 q hq; exact ⟨a, ha.warm hW⟩), fun x y hx hy hn => (h7 x y hx hy hn).moved hW.alike⟩
theorem m_X.moved {D : va_G} {ty : List (ClassId × FieldType)} {s U : State} {xs : Option (Nat × (Nat → Int32))} {ρ : Nat → Nat → Option Nat} {σ : mS} {H : Heap} (hvm : s.vm.Alike U.vm) (h : m_X D ty s xs ρ σ H) : m_X D ty U xs ρ σ H :=
  ⟨h.1, h.2.1, h.2.2.1, fun c i a ha => (h.2.2.2 c i a ha).imp (fun z => by obtain ⟨h1, q, h2, h3⟩ := z; exact ⟨h1, q, h2, h3.moved hvm⟩) (fun z => z)⟩
def m_ov (ρ : Nat → Nat → Option Nat) (v : Option mV) (w : Option Value) : Prop := match v, w with
  | none, none => True
  | some x, some y => m_vr ρ x y
  | _, _ => False
def m_Pc (D : va_G) (ty : List (ClassId × FieldType)) (xs : Option (Nat × (Nat → Int32))) (A : Nat → Prop) (ρ : Nat → Nat → Option Nat) (σ : mS) (avs : List mV) : Array Value → State → Prop := fun av U =>
  (∃ ws : List Value, av = ws.toArray ∧ m_sr ρ avs ws) ∧ m_X D ty U xs ρ σ U.heap ∧ m_En D ty A U ∧ (∀ c i a, c ≠ 98 → ρ c i = some a → A a) ∧ ∀ q, U.heap.size ≤ q → A q
def m_Qc (D : va_G) (ty : List (ClassId × FieldType)) (xs : Option (Nat × (Nat → Int32))) (A : Nat → Prop) (ρ : Nat → Nat → Option Nat) (Q : mX → mS → Prop) : Array Value → State → Outcome → State → Prop := fun _ st o t =>
  (∃ (ρ' : Nat → Nat → Option Nat) (σ' : mS) (v : Option mV) (w : Option Value), o = .returned w ∧ m_ov ρ' v w ∧ m_le ρ ρ' ∧ m_X D ty t xs ρ' σ' t.heap ∧ (∀ c i a, c ≠ 98 → ρ' c i = some a → A a) ∧ Q (.inl v) σ') ∧ va_F A st t
def m_XC (D : va_G) (ty : List (ClassId × FieldType)) (xs : Option (Nat × (Nat → Int32))) (A : Nat → Prop) (ρ : Nat → Nat → Option Nat) (Q : mX → mS → Prop) : String → State → State → Prop := fun E st t =>
  (∃ (ρ' : Nat → Nat → Option Nat) (σ' : mS) (x : Nat), E = m_xn x ∧ m_le ρ ρ' ∧ m_X D ty t xs ρ' σ' t.heap ∧ (∀ c i a, c ≠ 98 → ρ' c i = some a → A a) ∧ Q (.inr x) σ') ∧ va_F A st t
/-- the contract of a method at these arguments, from this heap of the model: it ends so that Q holds -/
def m_Con (l : Launch) (y : MethodName) (ws : List Cond) (rm : Room) (mc ms : Nat) (avs : List mV) (σ : mS) (Q : mX → mS → Prop) : Prop :=
  ∀ (D : va_G) (ty : List (ClassId × FieldType)) (xs : Option (Nat × (Nat → Int32))) (A : Nat → Prop) (ρ : Nat → Nat → Option Nat), vx_Met l y ws rm (m_Pc D ty xs A ρ σ avs) (m_Qc D ty xs A ρ Q) (m_XC D ty xs A ρ Q) mc ms A
theorem m_blind {D : va_G} {ty : List (ClassId × FieldType)} {xs : Option (Nat × (Nat → Int32))} {A : Nat → Prop} {ρ : Nat → Nat → Option Nat} {σ : mS} {avs : List mV} : FrameBlind (m_Pc D ty xs A ρ σ avs) := by
  intro a U g mk h
  obtain ⟨h1, h2, h3, h4, h5⟩ := h
  have hW : U.WarmedH (U.calling g mk a).vm := State.WarmedH.refl U
  exact ⟨h1, h2.moved hW.alike, h3.moved hW (fun _ _ _ => rfl), h4, h5⟩
theorem m_sr_app {ρ : Nat → Nat → Option Nat} : ∀ {xs ys : List mV} {sw : List Value}, m_sr ρ (xs ++ ys) sw → ∃ a b, sw = a ++ b ∧ m_sr ρ xs a ∧ m_sr ρ ys b
  | [], _, sw, h => ⟨[], sw, rfl, trivial, h⟩
  | _ :: _, _, [], h => h.elim
  | _ :: _, _, w :: _, ⟨h1, h2⟩ => by
    obtain ⟨a, b, rfl, h3, h4⟩ := m_sr_app h2
    exact ⟨w :: a, b, rfl, ⟨h1, h3⟩, h4⟩
theorem m_sr_cat {ρ : Nat → Nat → Option Nat} : ∀ {xs ys : List mV} {a b : List Value}, m_sr ρ xs a → m_sr ρ ys b → m_sr ρ (xs ++ ys) (a ++ b)
  | [], _, [], _, _, h => h
  | [], _, _ :: _, _, h, _ => h.elim
  | _ :: _, _, [], _, h, _ => h.elim
  | _ :: _, _, _ :: _, _, ⟨h1, h2⟩, h => ⟨h1, m_sr_cat h2 h⟩
theorem m_sr_rev {ρ : Nat → Nat → Option Nat} : ∀ {xs : List mV} {a : List Value}, m_sr ρ xs a → m_sr ρ xs.reverse a.reverse
  | [], [], _ => trivial
  | [], _ :: _, h => h.elim
  | _ :: _, [], h => h.elim
  | x :: xs, w :: ws, ⟨h1, h2⟩ => by
    rw [List.reverse_cons, List.reverse_cons]
    exact m_sr_cat (m_sr_rev h2) ⟨h1, trivial⟩
theorem m_sr_len {ρ : Nat → Nat → Option Nat} : ∀ {xs : List mV} {a : List Value}, m_sr ρ xs a → a.length = xs.length
  | [], [], _ => rfl
  | [], _ :: _, h => h.elim
  | _ :: _, [], h => h.elim
  | _ :: _, _ :: _, ⟨_, h2⟩ => congrArg (· + 1) (m_sr_len h2)
/-- words on the stack -/
def m_cat (x : mV) : Nat := match x with
  | .inr (.inl _) => 2
  | _ => 1
theorem m_vr_catN {ρ : Nat → Nat → Option Nat} {x : mV} {w : Value} (h : m_vr ρ x w) : w.category = m_cat x := by
  rcases x with a | a | _ | q
  · cases (show w = .int a from h); rfl
  · cases (show w = .long a from h); rfl
  · cases (show w = .null from h); rfl
  · obtain ⟨a, -, h2⟩ := h
    cases h2; rfl
theorem m_sr_sum {ρ : Nat → Nat → Option Nat} : ∀ {xs : List mV} {a : List Value}, m_sr ρ xs a → (a.map fun v => v.category).sum = (xs.map m_cat).sum
  | [], [], _ => rfl
  | [], _ :: _, h => h.elim
  | _ :: _, [], h => h.elim
  | _ :: _, _ :: _, ⟨h1, h2⟩ => by
    rw [List.map_cons, List.map_cons, List.sum_cons, List.sum_cons, m_sr_sum h2, m_vr_catN h1]
section MC
variable {p : Program} {l : Launch} {e : Env} {R : Room} {s : State} {m : MethodId} {args : Array Value} {below : List Frame} {meth : Method} {cd : Code} {Qt : State → Prop} {A : Nat → Prop} {ρ0 : Nat → Nat → Option Nat} {cc : ByteArray} {own : String} {D : va_G} {ty : List (ClassId × FieldType)} {xs : Option (Nat × (Nat → Int32))} {B : List Cond}
variable {pc k n mc ms : Nat} {L : List (Option mV)} {st : List mV} {σ : mS} {Q : mX → mS → Prop}
/-- an exception of the kind x lies over the frame at pc -/
def m_JX (p : Program) (l : Launch) (e : Env) (R : Room) (s : State) (m : MethodId) (args : Array Value) (below : List Frame) (meth : Method) (cd : Code) (Qt : State → Prop) (A : Nat → Prop) (ρ0 : Nat → Nat → Option Nat) (X : (Nat → Nat → Option Nat) → mS → Heap → Prop)
    (pc : Nat) (L : List (Option mV)) (σ : mS) (k n x : Nat) : Prop :=
  ∀ (ρ : Nat → Nat → Option Nat) (H : Heap) (locs : List Loc) (ls : Array Slot) (sw : List Value) (q : Nat) (ce : Cell), m_le ρ0 ρ → X ρ σ H → (∀ c i a, c ≠ 98 → ρ c i = some a → A a) → va_S A s.heap H locs → m_lr ρ ls L → H[q]? = some ce → ce.vm = .none → s.vm.findClass (m_xn x) = some ce.cls →
    vx_W p l e R s m args below meth cd H locs k n Qt (F0 m pc ls sw) q
theorem m_jx_out (hout : ∀ x ∈ cd.exceptionTable.toList, covers x pc = false) (hlocks : meth.locks = false) {x : Nat} (hk : k ≤ mc) (hn : n ≤ ms) (hQ : Q (.inr x) σ) :
    m_JX p l e R s m args below meth cd (vx_MQ below (m_Qc D ty xs A ρ0 Q) (m_XC D ty xs A ρ0 Q) args s mc ms A) A ρ0 (m_X D ty s xs) pc L σ k n x := by
  intro ρ H locs ls sw q ce h1 h2 h3 h4 h5 h6 h7 h8
  exact vx_out (E := m_xn x) hout hlocks h6 h7 h8 (fun t ht hv => ⟨⟨ρ, σ, x, rfl, h1, by rw [ht]; exact h2.moved hv, h3, hQ⟩, h4.F ht⟩) h4.2.2 hk hn
theorem m_j_zret (hx : p.tables.exec = Jvm.exec) (hb : cd.code = cc) {t : FieldType} {v : Int32} (hr : meth.sig.returnType = some t) (hv : narrow t (.int v) = .int v) (hlocks : meth.locks = false) (hd : decode cc pc = .ok (.ireturn, 1)) (hk : k ≤ mc) (hn : n ≤ ms) (hQ : Q (.inl (some (.inl v))) σ) :
    m_J p l e R s m args below meth cd (vx_MQ below (m_Qc D ty xs A ρ0 Q) (m_XC D ty xs A ρ0 Q) args s mc ms A) A ρ0 (m_X D ty s xs) pc L [.inl v] σ k n := by
  intro ρ H locs ls sw h1 h2 h3 h4 h5 h6
  obtain ⟨s', rfl, h7⟩ := m_sr_i h6
  cases s' with
  | cons _ _ => exact h7.elim
  | nil => exact vx_ret (W.widen hk hn (W.zret hx hb hr hv (fun t ht hw => ⟨⟨ρ, σ, some (.inl v), _, rfl, rfl, h1, by rw [ht]; exact h2.moved hw.alike, h3, hQ⟩, h4.F ht⟩) h4.2.2 hd hlocks))
theorem m_j_lret (hx : p.tables.exec = Jvm.exec) (hb : cd.code = cc) {v : Int64} (hr : meth.sig.returnType = some .long) (hlocks : meth.locks = false) (hd : decode cc pc = .ok (.lreturn, 1)) (hk : k ≤ mc) (hn : n ≤ ms) (hQ : Q (.inl (some (.inr (.inl v)))) σ) :
    m_J p l e R s m args below meth cd (vx_MQ below (m_Qc D ty xs A ρ0 Q) (m_XC D ty xs A ρ0 Q) args s mc ms A) A ρ0 (m_X D ty s xs) pc L [.inr (.inl v)] σ k n := by
  intro ρ H locs ls sw h1 h2 h3 h4 h5 h6
  obtain ⟨s', rfl, h7⟩ := m_sr_l h6
  cases s' with
  | cons _ _ => exact h7.elim
  | nil => exact vx_ret (W.widen hk hn (W.lret hx hb hr (fun t ht hw => ⟨⟨ρ, σ, some (.inr (.inl v)), _, rfl, rfl, h1, by rw [ht]; exact h2.moved hw.alike, h3, hQ⟩, h4.F ht⟩) h4.2.2 hd hlocks))
theorem m_j_vret (hx : p.tables.exec = Jvm.exec) (hb : cd.code = cc) (hr : meth.sig.returnType = none) (hlocks : meth.locks = false) (hd : decode cc pc = .ok (.return_, 1)) (hk : k ≤ mc) (hn : n ≤ ms) (hQ : Q (.inl none) σ) :
    m_J p l e R s m args below meth cd (vx_MQ below (m_Qc D ty xs A ρ0 Q) (m_XC D ty xs A ρ0 Q) args s mc ms A) A ρ0 (m_X D ty s xs) pc L [] σ k n := by
  intro ρ H locs ls sw h1 h2 h3 h4 h5 h6
  cases sw with
  | cons _ _ => exact h6.elim
  | nil => exact vx_ret (W.widen hk hn (W.vret hx hb hr (fun t ht hw => ⟨⟨ρ, σ, none, _, rfl, trivial, h1, by rw [ht]; exact h2.moved hw.alike, h3, hQ⟩, h4.F ht⟩) h4.2.2 hd hlocks))
theorem m_j_aret (hx : p.tables.exec = Jvm.exec) (hb : cd.code = cc) {rt : FieldType} {v : mR} (hr : meth.sig.returnType = some rt) (hrt : (∃ n, rt = .object n) ∨ ∃ t, rt = .array t) (hlocks : meth.locks = false) (hd : decode cc pc = .ok (.areturn, 1)) (hk : k ≤ mc) (hn : n ≤ ms) (hQ : Q (.inl (some (.inr (.inr v)))) σ) :
    m_J p l e R s m args below meth cd (vx_MQ below (m_Qc D ty xs A ρ0 Q) (m_XC D ty xs A ρ0 Q) args s mc ms A) A ρ0 (m_X D ty s xs) pc L [.inr (.inr v)] σ k n := by
  intro ρ H locs ls sw h1 h2 h3 h4 h5 h6
  obtain ⟨r, s', rfl, hr', h7⟩ := m_sr_r h6
  cases s' with
  | cons _ _ => exact h7.elim
  | nil => exact vx_ret (W.widen hk hn (W.aret hx hb hr hrt (va_rf_or r) (fun t ht hw => ⟨⟨ρ, σ, some (.inr (.inr v)), _, rfl, m_rr_v hr', h1, by rw [ht]; exact h2.moved hw.alike, h3, hQ⟩, h4.F ht⟩) h4.2.2 hd hlocks))
/-- behind a call -/
theorem m_j_run {H : Heap} {locs : List Loc} {ls : Array Slot} {sw0 sw' : List Value} {av : Array Value} {rest : List mV} {ρ : Nat → Nat → Option Nat} {Q1 : mX → mS → Prop} (hr : vx_Run p l e R s m args below meth cd H locs k n mc ms (F0 m pc ls sw0) sw' (m_Qc D ty xs A ρ Q1 av) (m_XC D ty xs A ρ Q1) A)
    (h1 : m_le ρ0 ρ) (h4 : va_S A s.heap H locs) (h5 : m_lr ρ ls L) (h7 : m_sr ρ rest sw')
    (hret : ∀ (v : Option mV) (σ' : mS), Q1 (.inl v) σ' → m_J p l e R s m args below meth cd Qt A ρ0 (m_X D ty s xs) (pc + 3) L (v.toList ++ rest) σ' (k + mc) (n + ms))
    (hthr : ∀ (x : Nat) (σ' : mS), Q1 (.inr x) σ' → m_JX p l e R s m args below meth cd Qt A ρ0 (m_X D ty s xs) pc L σ' (k + mc) (n + ms) x) :
    W p l e R s m args below meth cd H locs k n Qt (F0 m pc ls sw0) := by
  intro T hT X
  rcases hr T hT X with ⟨v, st₀, t, T', L1, h0, X', hL, e1, e2, ⟨⟨ρ', σ', v', w, hv, hov, hle, hX, hA', hq⟩, hF⟩, st⟩ | ⟨q, st₀, t, T', L1, E, ce, h0, X', hL, e1, e2, ⟨⟨ρ', σ', x, hE, hle, hX, hA', hq⟩, hF⟩, hce, hcv, hcl, st⟩
  · cases hv
    obtain ⟨k1, k2, k3⟩ := vx_keep h0 e1 h4 (fun _ _ z => z) (fun _ z => z) hL hF
    have hal : t.vm.Alike s.vm := by rw [← e2]; exact X'.warmed.alike.symm
    have hst : m_sr ρ' (v'.toList ++ rest) (v.toList ++ sw') := by
      cases v' with
      | none => cases v with
        | none => exact h7.le hle
        | some _ => exact hov.elim
      | some _ => cases v with
        | none => exact hov.elim
        | some _ => exact ⟨hov, h7.le hle⟩
    obtain ⟨t2, a1, b1⟩ := hret v' σ' hq ρ' T'.heap (locs ++ L1) ls _ (h1.tr hle) (by rw [e1]; exact hX.moved hal) hA' k3 (h5.le hle) hst T' rfl X'
    exact ⟨t2, st t2 a1, b1⟩
  · obtain ⟨k1, k2, k3⟩ := vx_keep h0 e1 h4 (fun _ _ z => z) (fun _ z => z) hL hF
    have hal : t.vm.Alike s.vm := by rw [← e2]; exact X'.warmed.alike.symm
    subst hE
    obtain ⟨t2, a1, b1⟩ := hthr x σ' hq ρ' T'.heap (locs ++ L1) ls sw' q ce (h1.tr hle) (by rw [e1]; exact hX.moved hal) hA' k3 (h5.le hle) (by rw [e1]; exact hce) hcv hcl T' rfl X'
    exact ⟨t2, st.trans a1, b1⟩
end MC
