section MK
variable {p : Program} {l : Launch} {e : Env} {R : Room} {s : State} {m : MethodId} {args : Array Value} {below : List Frame} {meth : Method} {cd : Code} {Qt : State → Prop} {A : Nat → Prop} {ρ0 : Nat → Nat → Option Nat} {cc : ByteArray} {own : String} {D : va_G} {ty : List (ClassId × FieldType)} {xs : Option (Nat × (Nat → Int32))} {nL : Nat}
variable {pc k n mc ms : Nat} {L : List (Option mV)} {st : List mV} {σ : mS} {Q : mX → mS → Prop}
theorem m_xword (HB : ∀ w ∈ m_BIG, w.before args s = true) (HE : ∀ w ∈ m_ODD, va_Nw w s) {w : Cond} (h1 : w ∈ lw_tbl) (h2 : (goodWord w || m_oddk w) = true) : w.before args s = true := by
  rcases (Bool.or_eq_true _ _).mp h2 with h | h
  · exact HB w (List.mem_filter.mpr ⟨h1, h⟩)
  · have h9 := HE w (List.mem_filter.mpr ⟨h1, h⟩)
    cases w with
    | arrayOver t => exact h9
    | castable a b => exact va_Nw.use rfl h9
    | declares a => exact va_Nw.use rfl h9
    | methodLinkNest a b c d => exact va_Nw.use rfl h9
    | _ => cases h
theorem m_X.keptH {ρ : Nat → Nat → Option Nat} {H H' : Heap} (h : m_X D ty s xs ρ σ H) (hq : ∀ q, q < H.size → H'[q]? = H[q]?) : m_X D ty s xs ρ σ H' :=
  ⟨h.1, h.2.1, h.2.2.1, fun c i a ha => (h.2.2.2 c i a ha).imp (fun z => by obtain ⟨h1, q, h2, h3⟩ := z; exact ⟨h1, q, h2, h3.kept (hq _ (h.lt ha))⟩) (fun z => ⟨z.1, z.2.to m_le.rf (fun _ => rfl) rfl (hq _ (h.lt ha))⟩)⟩

theorem m_j_throw (C : m_C p l s m args meth cd cc RX11 nL D ty A) (hex : ∀ x ∈ cd.exceptionTable.toList, False) {x is : Nat} {text : String} (hx3 : x < 3) (hstr : (RX11, is, text) ∈ m_strs) (hL : L.length = nL) (d0 : decode cc pc = .ok (.new (m_xk x).1, 3)) (d3 : decode cc (pc + 3) = .ok (.dup, 1)) (d4 : decode cc (pc + 4) = .ok (.ldc is, 2)) (d6 : decode cc (pc + 6) = .ok (.invokespecial (m_xk x).2, 3)) (d9 : decode cc (pc + 9) = .ok (.athrow, 1))
    (hRf : 5 < R.frames) (hRl : (st.map m_cat).sum + 82 ≤ R.locals) (hRc : k + 1 ≤ R.cells) (hRs : n + 6 ≤ R.slots) (hk : k + 1 ≤ mc) (hn : n + 6 ≤ ms) (hQ : Q (.inr x) σ) :
    m_J p l e R s m args below meth cd (vx_MQ below (m_Qc D ty xs A ρ0 Q) (m_XC D ty xs A ρ0 Q) args s mc ms A) A ρ0 (m_X D ty s xs) pc L st σ k n := by
  obtain ⟨hx, hb, hown, HB, HE, hA, hml, hlk, hl⟩ := C
  intro ρ H locs ls sw h1 h2 h3 h4 h5 h6
  have hw := List.all_eq_true.mp (m_xw hx3)
  have hin : ∀ w, w ∈ (Cond.classLink RX11 (m_xk x).1 (m_xn x) :: Cond.initialized (m_xn x) :: vx_atS RX11 (m_xk x).2 (m_xn x) m_xnames) → w.before args s = true ∧ vx_ot w = true := by
    intro w h
    have h9 := hw w h
    simp only [Bool.and_eq_true] at h9
    exact ⟨m_xword HB HE.2.2.1 (List.contains_iff_mem.mp h9.1.1) h9.1.2, h9.2⟩
  obtain ⟨sa, hsa⟩ := HE.2.2.2.2.2.1 _ hstr
  have hfit : Bundle.fit (m_xn x) = true := by
    have : x = 0 ∨ x = 1 ∨ x = 2 := by omega
    rcases this with rfl | rfl | rfl <;> decide +kernel
  refine vx_throwS (names := m_xnames) hx hb hl hown hfit (by decide +kernel) (hin _ List.mem_cons_self).1 (hin _ (List.mem_cons_of_mem _ List.mem_cons_self)).1 hsa (fun w h => (hin w (List.mem_cons_of_mem _ (List.mem_cons_of_mem _ h))).1) (fun w h => (hin w h).2) HE.2.2.2.1 HE.2.2.2.2.1 h4 (by rw [h5.1, hL, hml]) d0 d3 d4 d6 d9 (fun x h => (hex x h).elim) hRf (by rw [m_sr_sum h6]; exact hRl) hRc hRs hlk (fun t hv hz hq => ⟨⟨ρ, σ, x, rfl, h1, (h2.keptH hq).moved hv, h3, hQ⟩, Nat.le_trans h4.1 hz, fun q e1 e2 => (hq q (Nat.lt_of_lt_of_le e1 h4.1)).trans (h4.2.1 q e1 e2)⟩) h4.2.2 hk hn
theorem m_j_throwW (C : m_C p l s m args meth cd cc RX11 nL D ty A) (hex : ∀ x ∈ cd.exceptionTable.toList, False) {x is : Nat} {text : String} (hx3 : x < 3) (hstr : (RX11, is, text) ∈ m_strs) (hL : L.length = nL) (d0 : decode cc pc = .ok (.new (m_xk x).1, 3)) (d3 : decode cc (pc + 3) = .ok (.dup, 1)) (d4 : decode cc (pc + 4) = .ok (.ldc_w is, 3)) (d6 : decode cc (pc + 7) = .ok (.invokespecial (m_xk x).2, 3)) (d9 : decode cc (pc + 10) = .ok (.athrow, 1))
    (hRf : 5 < R.frames) (hRl : (st.map m_cat).sum + 82 ≤ R.locals) (hRc : k + 1 ≤ R.cells) (hRs : n + 6 ≤ R.slots) (hk : k + 1 ≤ mc) (hn : n + 6 ≤ ms) (hQ : Q (.inr x) σ) :
    m_J p l e R s m args below meth cd (vx_MQ below (m_Qc D ty xs A ρ0 Q) (m_XC D ty xs A ρ0 Q) args s mc ms A) A ρ0 (m_X D ty s xs) pc L st σ k n := by
  obtain ⟨hx, hb, hown, HB, HE, hA, hml, hlk, hl⟩ := C
  intro ρ H locs ls sw h1 h2 h3 h4 h5 h6
  have hw := List.all_eq_true.mp (m_xw hx3)
  have hin : ∀ w, w ∈ (Cond.classLink RX11 (m_xk x).1 (m_xn x) :: Cond.initialized (m_xn x) :: vx_atS RX11 (m_xk x).2 (m_xn x) m_xnames) → w.before args s = true ∧ vx_ot w = true := by
    intro w h
    have h9 := hw w h
    simp only [Bool.and_eq_true] at h9
    exact ⟨m_xword HB HE.2.2.1 (List.contains_iff_mem.mp h9.1.1) h9.1.2, h9.2⟩
  obtain ⟨sa, hsa⟩ := HE.2.2.2.2.2.1 _ hstr
  have hfit : Bundle.fit (m_xn x) = true := by
    have : x = 0 ∨ x = 1 ∨ x = 2 := by omega
    rcases this with rfl | rfl | rfl <;> decide +kernel
  refine vx_throwSW (names := m_xnames) hx hb hl hown hfit (by decide +kernel) (hin _ List.mem_cons_self).1 (hin _ (List.mem_cons_of_mem _ List.mem_cons_self)).1 hsa (fun w h => (hin w (List.mem_cons_of_mem _ (List.mem_cons_of_mem _ h))).1) (fun w h => (hin w h).2) HE.2.2.2.1 HE.2.2.2.2.1 h4 (by rw [h5.1, hL, hml]) d0 d3 d4 d6 d9 (fun x h => (hex x h).elim) hRf (by rw [m_sr_sum h6]; exact hRl) hRc hRs hlk (fun t hv hz hq => ⟨⟨ρ, σ, x, rfl, h1, (h2.keptH hq).moved hv, h3, hQ⟩, Nat.le_trans h4.1 hz, fun q e1 e2 => (hq q (Nat.lt_of_lt_of_le e1 h4.1)).trans (h4.2.1 q e1 e2)⟩) h4.2.2 hk hn
theorem m_j_callV (C : m_C p l s m args meth cd cc own nL D ty A) {y : MethodName} {bytes : ByteArray} {mL mc1 ms1 index : Nat} {rt : Option FieldType} {rm : Room} {as : List mV} {Q1 : mX → mS → Prop} {c i : Nat} {r : vw_C} (hc : m_cls[c]? = some r) (hcon : m_Con l y (m_W y bytes mL rt) rm mc1 ms1 (.inr (.inr (some (c, i))) :: as) σ Q1) (hl : Cond.methodLink own index y ∈ m_BIG) (hinst : Cond.instanceMethod y ∈ m_BIG) (hsel : Cond.selects r.1 y y ∈ m_BIG)
    (hcode : Cond.code y bytes mL rt ∈ m_BIG) (hini : Cond.initialized y.cls ∈ m_BIG) (hd1 : y.cls ≠ "java/lang/invoke/MethodHandle" ∧ y.cls ≠ "java/lang/invoke/VarHandle" ∧ (parseMethodDescriptor y.desc).map (fun d => d.parameters.length) = some as.length)
    (hrm : rm.cells = mc1 ∧ rm.slots = ms1 ∧ rm.frames + 1 ≤ R.frames ∧ 8 + (mL + 11) + rm.locals ≤ R.locals) (hL : L.length = nL) (hW : (st.map m_cat).sum ≤ 8) (hcs : k + mc1 ≤ R.cells ∧ n + ms1 ≤ R.slots)
    (hret : ∀ (v : Option mV) (σ' : mS), Q1 (.inl v) σ' → m_J p l e R s m args below meth cd Qt A ρ0 (m_X D ty s xs) (pc + 3) L (v.toList ++ st) σ' (k + mc1) (n + ms1))
    (hthr : ∀ (x : Nat) (σ' : mS), Q1 (.inr x) σ' → m_JX p l e R s m args below meth cd Qt A ρ0 (m_X D ty s xs) pc L σ' (k + mc1) (n + ms1) x) (hd : decode cc pc = .ok (.invokevirtual index, 3)) :
    m_J p l e R s m args below meth cd Qt A ρ0 (m_X D ty s xs) pc L (as.reverse ++ .inr (.inr (some (c, i))) :: st) σ k n := by
  obtain ⟨hx, hb, hown, HB, HE, hA, hml, hlk, hl0⟩ := C
  intro ρ H locs ls sw h1 h2 h3 h4 h5 h6
  obtain ⟨sa, sb, rfl, ha, hb6⟩ := m_sr_app h6
  obtain ⟨rr, sw', rfl, hr, h7⟩ := m_sr_r hb6
  cases rr with
  | none => exact hr.elim
  | some b =>
    have hr' : ρ c i = some b := hr
    obtain ⟨V, ⟨cell, q1, q2, q3, q4⟩, hV⟩ := m_objAt h2 hr' hc
    obtain ⟨hS, hfc, -⟩ := HE.1.1 c _ hc
    have ha' : m_sr ρ as sa.reverse := by have := m_sr_rev ha; rw [List.reverse_reverse] at this; exact this
    have hpre : ∀ U : State, U.heap = H → s.WarmedH U.vm → m_Pc D ty xs A ρ σ (.inr (.inr (some (c, i))) :: as) (Value.ref b :: sa.reverse).toArray U := fun U hU hWU =>
      ⟨⟨Value.ref b :: sa.reverse, rfl, ⟨b, hr', rfl⟩, ha'⟩, by rw [hU]; exact h2.moved hWU.alike, HE.moved hWU (fun a g1 g2 => by rw [hU]; exact h4.2.1 a g1 g2), h3, fun q g => hA q (Nat.le_trans h4.1 (by rw [← hU]; exact g))⟩
    have hCB : ∀ {rt' : Option FieldType}, Cond.code y bytes mL rt' ∈ m_BIG → (Cond.methodLink own index y).before args s = true → CallB R s args own index y bytes mL rt' (m_W y bytes mL rt') rm mc1 ms1 as.length := fun h0 hl => callB_of as.length HB (m_W_good h0) rfl hrm.1 hrm.2.1 (HB _ hini) hl hd1 hrm.2.2
    exact m_j_run (vx_runV (S := (⟨hx, hb, hml, hown, HB⟩ : CallFix p m cd cc nL s args m_BIG own)) (hcon D ty xs A ρ) ⟨hCB hcode (HB _ hl), HB _ hinst, HB _ hsel⟩ (C := r.1) (b := b) (As := sa.reverse) ⟨m_blind, ⟨cell, q1, by rw [q3]; rfl, by rw [q2]; exact hfc⟩, hpre⟩ (g := F0 m pc ls (sa ++ Value.ref b :: sw')) (rest := sw') rfl (by rw [m_sr_len ha']) (h5.1.trans hL) (by rw [List.reverse_reverse]) (lv_room (by rw [m_sr_sum h7]; exact hW)) hd hcs) h1 h4 h5 h7 hret hthr
theorem m_j_callI (C : m_C p l s m args meth cd cc own nL D ty A) {y : MethodName} {bytes : ByteArray} {mL mc1 ms1 index : Nat} {rt : Option FieldType} {rm : Room} {as : List mV} {Q1 : mX → mS → Prop} {c i : Nat} {r : vw_C} (hc : m_cls[c]? = some r) (hcon : m_Con l y (m_W y bytes mL none) rm mc1 ms1 (.inr (.inr (some (c, i))) :: as) σ Q1) (hl : Cond.methodLink own index y ∈ m_BIG) (hinst : Cond.instanceMethod y ∈ m_BIG) (hy1 : y.name = "<init>")
    (hcode : Cond.code y bytes mL none ∈ m_BIG) (hini : Cond.initialized y.cls ∈ m_BIG) (hd1 : y.cls ≠ "java/lang/invoke/MethodHandle" ∧ y.cls ≠ "java/lang/invoke/VarHandle" ∧ (parseMethodDescriptor y.desc).map (fun d => d.parameters.length) = some as.length)
    (hrm : rm.cells = mc1 ∧ rm.slots = ms1 ∧ rm.frames + 1 ≤ R.frames ∧ 8 + (mL + 11) + rm.locals ≤ R.locals) (hL : L.length = nL) (hW : (st.map m_cat).sum ≤ 8) (hcs : k + mc1 ≤ R.cells ∧ n + ms1 ≤ R.slots)
    (hret : ∀ (v : Option mV) (σ' : mS), Q1 (.inl v) σ' → m_J p l e R s m args below meth cd Qt A ρ0 (m_X D ty s xs) (pc + 3) L (v.toList ++ st) σ' (k + mc1) (n + ms1))
    (hthr : ∀ (x : Nat) (σ' : mS), Q1 (.inr x) σ' → m_JX p l e R s m args below meth cd Qt A ρ0 (m_X D ty s xs) pc L σ' (k + mc1) (n + ms1) x) (hd : decode cc pc = .ok (.invokespecial index, 3)) :
    m_J p l e R s m args below meth cd Qt A ρ0 (m_X D ty s xs) pc L (as.reverse ++ .inr (.inr (some (c, i))) :: st) σ k n := by
  obtain ⟨hx, hb, hown, HB, HE, hA, hml, hlk, hl0⟩ := C
  intro ρ H locs ls sw h1 h2 h3 h4 h5 h6
  obtain ⟨sa, sb, rfl, ha, hb6⟩ := m_sr_app h6
  obtain ⟨rr, sw', rfl, hr, h7⟩ := m_sr_r hb6
  cases rr with
  | none => exact hr.elim
  | some b =>
    have hr' : ρ c i = some b := hr
    obtain ⟨V, ⟨cell, q1, q2, q3, q4⟩, hV⟩ := m_objAt h2 hr' hc
    obtain ⟨hS, hfc, -⟩ := HE.1.1 c _ hc
    have ha' : m_sr ρ as sa.reverse := by have := m_sr_rev ha; rw [List.reverse_reverse] at this; exact this
    have hpre : ∀ U : State, U.heap = H → s.WarmedH U.vm → m_Pc D ty xs A ρ σ (.inr (.inr (some (c, i))) :: as) (Value.ref b :: sa.reverse).toArray U := fun U hU hWU =>
      ⟨⟨Value.ref b :: sa.reverse, rfl, ⟨b, hr', rfl⟩, ha'⟩, by rw [hU]; exact h2.moved hWU.alike, HE.moved hWU (fun a g1 g2 => by rw [hU]; exact h4.2.1 a g1 g2), h3, fun q g => hA q (Nat.le_trans h4.1 (by rw [← hU]; exact g))⟩
    have hCB : ∀ {rt' : Option FieldType}, Cond.code y bytes mL rt' ∈ m_BIG → (Cond.methodLink own index y).before args s = true → CallB R s args own index y bytes mL rt' (m_W y bytes mL rt') rm mc1 ms1 as.length := fun h0 hl => callB_of as.length HB (m_W_good h0) rfl hrm.1 hrm.2.1 (HB _ hini) hl hd1 hrm.2.2
    exact m_j_run (vx_runI (S := (⟨hx, hb, hml, hown, HB⟩ : CallFix p m cd cc nL s args m_BIG own)) (hcon D ty xs A ρ) ⟨hCB hcode (HB _ hl), hy1, HB _ hinst⟩ (b := b) (As := sa.reverse) ⟨m_blind, hpre⟩ (g := F0 m pc ls (sa ++ Value.ref b :: sw')) (rest := sw') rfl (by rw [m_sr_len ha']) (h5.1.trans hL) (by rw [List.reverse_reverse]) (lv_room (by rw [m_sr_sum h7]; exact hW)) hd hcs) h1 h4 h5 h7 hret hthr
theorem m_j_callIN (C : m_C p l s m args meth cd cc own nL D ty A) {y : MethodName} {bytes : ByteArray} {mL mc1 ms1 index : Nat} {rt : Option FieldType} {rm : Room} {as : List mV} {Q1 : mX → mS → Prop} {c i : Nat} {r : vw_C} (hc : m_cls[c]? = some r) (hcon : m_Con l y (m_W y bytes mL none) rm mc1 ms1 (.inr (.inr (some (c, i))) :: as) σ Q1) {host : String} (hl : Cond.methodLinkNest own index y host ∈ m_ODD) (hinst : Cond.instanceMethod y ∈ m_BIG) (hy1 : y.name = "<init>")
    (hcode : Cond.code y bytes mL none ∈ m_BIG) (hini : Cond.initialized y.cls ∈ m_BIG) (hd1 : y.cls ≠ "java/lang/invoke/MethodHandle" ∧ y.cls ≠ "java/lang/invoke/VarHandle" ∧ (parseMethodDescriptor y.desc).map (fun d => d.parameters.length) = some as.length)
    (hrm : rm.cells = mc1 ∧ rm.slots = ms1 ∧ rm.frames + 1 ≤ R.frames ∧ 8 + (mL + 11) + rm.locals ≤ R.locals) (hL : L.length = nL) (hW : (st.map m_cat).sum ≤ 8) (hcs : k + mc1 ≤ R.cells ∧ n + ms1 ≤ R.slots)
    (hret : ∀ (v : Option mV) (σ' : mS), Q1 (.inl v) σ' → m_J p l e R s m args below meth cd Qt A ρ0 (m_X D ty s xs) (pc + 3) L (v.toList ++ st) σ' (k + mc1) (n + ms1))
    (hthr : ∀ (x : Nat) (σ' : mS), Q1 (.inr x) σ' → m_JX p l e R s m args below meth cd Qt A ρ0 (m_X D ty s xs) pc L σ' (k + mc1) (n + ms1) x) (hd : decode cc pc = .ok (.invokespecial index, 3)) :
    m_J p l e R s m args below meth cd Qt A ρ0 (m_X D ty s xs) pc L (as.reverse ++ .inr (.inr (some (c, i))) :: st) σ k n := by
  obtain ⟨hx, hb, hown, HB, HE, hA, hml, hlk, hl0⟩ := C
  intro ρ H locs ls sw h1 h2 h3 h4 h5 h6
  obtain ⟨sa, sb, rfl, ha, hb6⟩ := m_sr_app h6
  obtain ⟨rr, sw', rfl, hr, h7⟩ := m_sr_r hb6
  cases rr with
  | none => exact hr.elim
  | some b =>
    have hr' : ρ c i = some b := hr
    obtain ⟨V, ⟨cell, q1, q2, q3, q4⟩, hV⟩ := m_objAt h2 hr' hc
    obtain ⟨hS, hfc, -⟩ := HE.1.1 c _ hc
    have ha' : m_sr ρ as sa.reverse := by have := m_sr_rev ha; rw [List.reverse_reverse] at this; exact this
    have hpre : ∀ U : State, U.heap = H → s.WarmedH U.vm → m_Pc D ty xs A ρ σ (.inr (.inr (some (c, i))) :: as) (Value.ref b :: sa.reverse).toArray U := fun U hU hWU =>
      ⟨⟨Value.ref b :: sa.reverse, rfl, ⟨b, hr', rfl⟩, ha'⟩, by rw [hU]; exact h2.moved hWU.alike, HE.moved hWU (fun a g1 g2 => by rw [hU]; exact h4.2.1 a g1 g2), h3, fun q g => hA q (Nat.le_trans h4.1 (by rw [← hU]; exact g))⟩
    have hCB : ∀ {rt' : Option FieldType}, Cond.code y bytes mL rt' ∈ m_BIG → (Cond.methodLink own index y).before args s = true → CallB R s args own index y bytes mL rt' (m_W y bytes mL rt') rm mc1 ms1 as.length := fun h0 hl => callB_of as.length HB (m_W_good h0) rfl hrm.1 hrm.2.1 (HB _ hini) hl hd1 hrm.2.2
    exact m_j_run (vx_runIN (S := (⟨hx, hb, hml, hown, HB⟩ : CallFix p m cd cc nL s args m_BIG own)) (hcon D ty xs A ρ) ⟨va_cnB as.length HB (m_W_good hcode) rfl hrm.1 hrm.2.1 (HE.2.2.1 _ hl) (HB _ hini) hd1 hrm.2.2, hy1, HB _ hinst⟩ (b := b) (As := sa.reverse) ⟨m_blind, hpre⟩ (g := F0 m pc ls (sa ++ Value.ref b :: sw')) (rest := sw') rfl (by rw [m_sr_len ha']) (h5.1.trans hL) (by rw [List.reverse_reverse]) (lv_room (by rw [m_sr_sum h7]; exact hW)) hd hcs) h1 h4 h5 h7 hret hthr
theorem m_j_callS (C : m_C p l s m args meth cd cc own nL D ty A) {y : MethodName} {bytes : ByteArray} {mL mc1 ms1 index : Nat} {rt : Option FieldType} {rm : Room} {as : List mV} {Q1 : mX → mS → Prop} (hcon : m_Con l y (m_W y bytes mL rt) rm mc1 ms1 as σ Q1) (hl : Cond.methodLink own index y ∈ m_BIG) (hstat : Cond.static y ∈ m_BIG)
    (hcode : Cond.code y bytes mL rt ∈ m_BIG) (hini : Cond.initialized y.cls ∈ m_BIG) (hd1 : y.cls ≠ "java/lang/invoke/MethodHandle" ∧ y.cls ≠ "java/lang/invoke/VarHandle" ∧ (parseMethodDescriptor y.desc).map (fun d => d.parameters.length) = some as.length)
    (hrm : rm.cells = mc1 ∧ rm.slots = ms1 ∧ rm.frames + 1 ≤ R.frames ∧ 8 + (mL + 11) + rm.locals ≤ R.locals) (hL : L.length = nL) (hW : (st.map m_cat).sum ≤ 8) (hcs : k + mc1 ≤ R.cells ∧ n + ms1 ≤ R.slots)
    (hret : ∀ (v : Option mV) (σ' : mS), Q1 (.inl v) σ' → m_J p l e R s m args below meth cd Qt A ρ0 (m_X D ty s xs) (pc + 3) L (v.toList ++ st) σ' (k + mc1) (n + ms1))
    (hthr : ∀ (x : Nat) (σ' : mS), Q1 (.inr x) σ' → m_JX p l e R s m args below meth cd Qt A ρ0 (m_X D ty s xs) pc L σ' (k + mc1) (n + ms1) x) (hd : decode cc pc = .ok (.invokestatic index, 3)) :
    m_J p l e R s m args below meth cd Qt A ρ0 (m_X D ty s xs) pc L (as.reverse ++ st) σ k n := by
  obtain ⟨hx, hb, hown, HB, HE, hA, hml, hlk, hl0⟩ := C
  intro ρ H locs ls sw h1 h2 h3 h4 h5 h6
  obtain ⟨sa, sw', rfl, ha, h7⟩ := m_sr_app h6
  have ha' : m_sr ρ as sa.reverse := by have := m_sr_rev ha; rw [List.reverse_reverse] at this; exact this
  have hpre : ∀ U : State, U.heap = H → s.WarmedH U.vm → m_Pc D ty xs A ρ σ as sa.reverse.toArray U := fun U hU hWU =>
    ⟨⟨sa.reverse, rfl, ha'⟩, by rw [hU]; exact h2.moved hWU.alike, HE.moved hWU (fun a g1 g2 => by rw [hU]; exact h4.2.1 a g1 g2), h3, fun q g => hA q (Nat.le_trans h4.1 (by rw [← hU]; exact g))⟩
  exact m_j_run (vx_runS (S := (⟨hx, hb, hml, hown, HB⟩ : CallFix p m cd cc nL s args m_BIG own)) (hcon D ty xs A ρ) ⟨callB_of as.length HB (m_W_good hcode) rfl hrm.1 hrm.2.1 (HB _ hini) (HB _ hl) hd1 hrm.2.2, HB _ hstat⟩ (As := sa.reverse) ⟨m_blind, hpre⟩ (g := F0 m pc ls (sa ++ sw')) (rest := sw') rfl (by rw [m_sr_len ha']) (h5.1.trans hL) (by rw [List.reverse_reverse]) (lv_room (by rw [m_sr_sum h7]; exact hW)) hd hcs) h1 h4 h5 h7 hret hthr
theorem m_j_callSX (C : m_C p l s m args meth cd cc own nL D ty A) {y : MethodName} {bytes : ByteArray} {mL mc1 ms1 index : Nat} {rt : Option FieldType} {rm : Room} {as : List mV} {Q1 : mX → mS → Prop} {hh : List (Nat × Nat × Nat × Nat)} (hcon : m_Con l y (Cond.codeWith y bytes mL rt hh :: m_BIG) rm mc1 ms1 as σ Q1) (hl : Cond.methodLink own index y ∈ m_BIG) (hstat : Cond.static y ∈ m_BIG)
    (hcode : Cond.codeWith y bytes mL rt hh ∈ m_BIG) (hini : Cond.initialized y.cls ∈ m_BIG) (hd1 : y.cls ≠ "java/lang/invoke/MethodHandle" ∧ y.cls ≠ "java/lang/invoke/VarHandle" ∧ (parseMethodDescriptor y.desc).map (fun d => d.parameters.length) = some as.length)
    (hrm : rm.cells = mc1 ∧ rm.slots = ms1 ∧ rm.frames + 1 ≤ R.frames ∧ 8 + (mL + 11) + rm.locals ≤ R.locals) (hL : L.length = nL) (hW : (st.map m_cat).sum ≤ 8) (hcs : k + mc1 ≤ R.cells ∧ n + ms1 ≤ R.slots)
    (hret : ∀ (v : Option mV) (σ' : mS), Q1 (.inl v) σ' → m_J p l e R s m args below meth cd Qt A ρ0 (m_X D ty s xs) (pc + 3) L (v.toList ++ st) σ' (k + mc1) (n + ms1))
    (hthr : ∀ (x : Nat) (σ' : mS), Q1 (.inr x) σ' → m_JX p l e R s m args below meth cd Qt A ρ0 (m_X D ty s xs) pc L σ' (k + mc1) (n + ms1) x) (hd : decode cc pc = .ok (.invokestatic index, 3)) :
    m_J p l e R s m args below meth cd Qt A ρ0 (m_X D ty s xs) pc L (as.reverse ++ st) σ k n := by
  obtain ⟨hx, hb, hown, HB, HE, hA, hml, hlk, hl0⟩ := C
  intro ρ H locs ls sw h1 h2 h3 h4 h5 h6
  obtain ⟨sa, sw', rfl, ha, h7⟩ := m_sr_app h6
  have ha' : m_sr ρ as sa.reverse := by have := m_sr_rev ha; rw [List.reverse_reverse] at this; exact this
  have hpre : ∀ U : State, U.heap = H → s.WarmedH U.vm → m_Pc D ty xs A ρ σ as sa.reverse.toArray U := fun U hU hWU =>
    ⟨⟨sa.reverse, rfl, ha'⟩, by rw [hU]; exact h2.moved hWU.alike, HE.moved hWU (fun a g1 g2 => by rw [hU]; exact h4.2.1 a g1 g2), h3, fun q g => hA q (Nat.le_trans h4.1 (by rw [← hU]; exact g))⟩
  have hG : GoodIn m_BIG (Cond.codeWith y bytes mL rt hh :: m_BIG) := by
    intro w hw
    rcases List.mem_cons.mp hw with rfl | hw
    · exact ⟨hcode, m_BIG_good _ hcode⟩
    · exact ⟨hw, m_BIG_good _ hw⟩
  exact m_j_run (vx_runSX (S := (⟨hx, hb, hml, hown, HB⟩ : CallFix p m cd cc nL s args m_BIG own)) (hcon D ty xs A ρ) ⟨⟨hrm.1, hrm.2.1, hrm.2.2.1, hrm.2.2.2, pay_in HB hG, List.mem_cons_self⟩, HB _ hcode, HB _ hini, ⟨hd1.1, hd1.2.1⟩, (fun sig h => by have h2 := hd1.2.2; rw [h] at h2; exact (Option.some.inj h2).symm), HB _ hl, HB _ hstat⟩ (As := sa.reverse) ⟨m_blind, hpre⟩ (g := F0 m pc ls (sa ++ sw')) (rest := sw') rfl (by rw [m_sr_len ha']) (h5.1.trans hL) (by rw [List.reverse_reverse]) (lv_room (by rw [m_sr_sum h7]; exact hW)) hd hcs) h1 h4 h5 h7 hret hthr
end MK
