/-! the instructions that take the heap -/
theorem m_updV_eq (V : Nat → Value) (k : Nat) (v : Value) : updV V k v k = v := by simp [updV]
theorem m_updV_ne (V : Nat → Value) {k j : Nat} (v : Value) (h : j ≠ k) : updV V k v j = V j := by simp [updV, h]
theorem m_narrow_z {v : Int32} (h : v = 0 ∨ v = 1) : narrow .boolean (.int v) = .int v := by
  rcases h with h | h <;> subst h <;> decide
section MH
variable {p : Program} {l : Launch} {e : Env} {R : Room} {s : State} {m : MethodId} {args : Array Value} {below : List Frame} {meth : Method} {cd : Code} {Qt : State → Prop} {A : Nat → Prop} {ρ0 : Nat → Nat → Option Nat} {cc : ByteArray} {own : String} {D : va_G} {ty : List (ClassId × FieldType)} {xs : Option (Nat × (Nat → Int32))} {B : List Cond}
variable {pc k n : Nat} {L : List (Option mV)} {st : List mV} {σ : mS}
/-- what lies at an object's address -/
theorem m_objAt {ρ : Nat → Nat → Option Nat} {H : Heap} (h : m_X D ty s xs ρ σ H) {c i a : Nat} {r : vw_C} (ha : ρ c i = some a) (hc : m_cls[c]? = some r) : ∃ V, t_OB a (D.1 c) r.2.2 (D.2 c) H V ∧ ∀ k, k < r.2.2 → m_vr ρ (m_get σ c i k) (V k) := by
  have hlt := m_cls_lt hc
  rcases h.2.2.2 c i a ha with ⟨h1, -⟩ | ⟨-, h2⟩
  · omega
  · rcases h2 with ⟨r', h1, V, h2, h3⟩ | ⟨j, q, h1, -⟩
    · cases h1.symm.trans hc
      exact ⟨V, h2, h3⟩
    · omega
theorem m_arrAt {ρ : Nat → Nat → Option Nat} {H : Heap} (h : m_X D ty s xs ρ σ H) {j i a : Nat} (hj : j < 9) (ha : ρ (j + 13) i = some a) : ∃ q, ty[j]? = some q ∧ ∃ g, H[a]? = some (arrV q.1 (σ.2.1 (j + 13) i) g) ∧ ∀ k, k < σ.2.1 (j + 13) i → m_vr ρ (m_get σ (j + 13) i k) (g k) := by
  rcases h.2.2.2 _ i a ha with ⟨h1, -⟩ | ⟨-, h2⟩
  · omega
  · rcases h2 with ⟨r', h1, -⟩ | ⟨j', q, h1, h2, h3⟩
    · have := m_cls_lt h1; omega
    · have : j' = j := by omega
      subst this
      exact ⟨q, h2, h3⟩
theorem m_tyAt (hty : ty.map (fun q => q.2) = m_aty) {j : Nat} {q : ClassId × FieldType} {t : FieldType} (hq : ty[j]? = some q) (ht : m_aty[j]? = some t) : q.2 = t := by
  have h1 : (ty.map (fun q => q.2))[j]? = some q.2 := by rw [List.getElem?_map, hq]; rfl
  rw [hty, ht] at h1
  exact (Option.some.inj h1).symm

theorem m_j_get (hx : p.tables.exec = Jvm.exec) (hb : cd.code = cc) (hown : s.vm.findClass own = some m.cls) (HB : ∀ w ∈ B, w.before args s = true) (hK : va_K D m_cls ty s) {c i f index : Nat} {r : vw_C} (hc : m_cls[c]? = some r) (hf : f < r.2.2) (hin : ∀ w ∈ u_ws r.1 r.2.1 r.2.2, w ∈ B) (hl : (Cond.fieldLink own index r.1 (r.2.1 f).2.1 (r.2.1 f).2.2.1).before args s = true) (hd : decode cc pc = .ok (.getfield index, 3)) (K : m_J p l e R s m args below meth cd Qt A ρ0 (m_X D ty s xs) (pc + 3) L (m_get σ c i f :: st) σ k n) : m_J p l e R s m args below meth cd Qt A ρ0 (m_X D ty s xs) pc L (.inr (.inr (some (c, i))) :: st) σ k n := by
  intro ρ H locs ls sw h1 h2 h3 h4 h5 h6
  obtain ⟨rr, sw', rfl, hr, h7⟩ := m_sr_r h6
  cases rr with
  | none => exact hr.elim
  | some a =>
    obtain ⟨V, ⟨cell, q1, q2, q3, q4⟩, hV⟩ := m_objAt h2 (show ρ c i = some a from hr) hc
    obtain ⟨t, -, -, -, hdecl, -⟩ := m_fact c r hc
    obtain ⟨hS, hfc, kC, hkC, hkind⟩ := hK.1 c _ hc
    obtain ⟨cf, kf, fi, fd, hi, hsl⟩ := hS f hf
    have hi' : s.fieldFound? r.1 (r.2.1 f).2.1 (r.2.1 f).2.2.1 = some (cf, kf, fi, fd) := by rw [← hdecl f hf]; exact hi
    refine W.getf hx hb hown hl hi' (u_facts hfc hkC (u_lays HB hin hf) hi).1 q1 (by rw [q3]; exact fun h => by cases h) (v := V f) ?_ rfl rfl hd (K ρ H locs ls _ h1 h2 h3 h4 h5 ⟨hV f hf, h7⟩)
    rw [hsl, q4 f hf]
theorem m_j_put (hx : p.tables.exec = Jvm.exec) (hb : cd.code = cc) (hown : s.vm.findClass own = some m.cls) (HB : ∀ w ∈ B, w.before args s = true) (hK : va_K D m_cls ty s) {c i f index : Nat} {r : vw_C} {x : mV} (hc : m_cls[c]? = some r) (hf : f < r.2.2) (hin : ∀ w ∈ u_ws r.1 r.2.1 r.2.2, w ∈ B) (hl : (Cond.fieldLink own index r.1 (r.2.1 f).2.1 (r.2.1 f).2.2.1).before args s = true) (hfin : (r.2.1 f).2.2.2 = false) (hx0 : m_tp (m_ty c f) x) (hd : decode cc pc = .ok (.putfield index, 3)) (K : m_J p l e R s m args below meth cd Qt A ρ0 (m_X D ty s xs) (pc + 3) L st (m_set σ c i f x) k n) : m_J p l e R s m args below meth cd Qt A ρ0 (m_X D ty s xs) pc L (x :: .inr (.inr (some (c, i))) :: st) σ k n := by
  intro ρ H locs ls sw h1 h2 h3 h4 h5 h6
  cases sw with
  | nil => exact h6.elim
  | cons v sw =>
  obtain ⟨hv, h6⟩ := h6
  obtain ⟨rr, sw', rfl, hr, h7⟩ := m_sr_r h6
  cases rr with
  | none => exact hr.elim
  | some a =>
    have hr' : ρ c i = some a := hr
    obtain ⟨V, ⟨cell, q1, q2, q3, q4⟩, hV⟩ := m_objAt h2 hr' hc
    obtain ⟨t, ht, hty, hnm, hdecl, hok⟩ := m_fact c r hc
    obtain ⟨hS, hfc, kC, hkC, hkind⟩ := hK.1 c _ hc
    obtain ⟨cf, kf, fi, fd, hi, hsl⟩ := hS f hf
    have hi' : s.fieldFound? r.1 (r.2.1 f).2.1 (r.2.1 f).2.2.1 = some (cf, kf, fi, fd) := by rw [← hdecl f hf]; exact hi
    have hlt := m_cls_lt hc
    have hap := va_apart (own := own) HB hin t hty hnm hK hc
    have hst := (u_facts hfc hkC (u_lays HB hin hf) hi).1
    obtain ⟨hn1, hn2⟩ := m_fits_of (hok f hf) (by rw [← m_ty_obj ht]; exact hx0) hv
    have hlay := HB _ (hin _ (u_in_lay hf))
    unfold u_lay at hlay
    rw [if_neg (by rw [hfin]; decide)] at hlay
    have h8 := u_store hfc hkC hkind hlay hi (hty f hf) hn1 hn2
    refine W.putK hx hb (f := fd) ⟨hown, hl, ⟨_, _, _, hi'⟩, hst⟩ (by rw [q2]; exact h8) q1 q3 (by rw [hsl]; exact k2_hasslot (q4 f hf)) rfl rfl hd fun H' e1 e2 e3 => ?_
    rw [hsl] at e1 ⊢
    refine K ρ H' _ ls _ h1 (h2.set hr' (by omega) (Or.inl ⟨r, hc, updV V f v, ⟨_, e1, q2, q3, t_set q4 hap hf v⟩, fun k' hk' => ?_⟩) e3) h3 (h4.put e2 e3 (h3 c i a (by omega) hr')) h5 h7
    by_cases e : k' = f
    · subst e
      rw [m_get_eq σ hx0, m_updV_eq]; exact hv
    · rw [m_get_ne σ x (fun z => e z.2.2), m_updV_ne _ _ e]; exact hV k' hk'
theorem m_j_putF (hx : p.tables.exec = Jvm.exec) (hb : cd.code = cc) (hown : s.vm.findClass own = some m.cls) (HB : ∀ w ∈ B, w.before args s = true) (hK : va_K D m_cls ty s) {c i f index : Nat} {r : vw_C} {x : mV} (hc : m_cls[c]? = some r) (hf : f < r.2.2) (hin : ∀ w ∈ u_ws r.1 r.2.1 r.2.2, w ∈ B) (hl : (Cond.fieldLink own index r.1 (r.2.1 f).2.1 (r.2.1 f).2.2.1).before args s = true) (hfin : (r.2.1 f).2.2.2 = true) (hin2 : meth.name = "<init>") (hro : r.1 = own) (hx0 : m_tp (m_ty c f) x) (hd : decode cc pc = .ok (.putfield index, 3)) (K : m_J p l e R s m args below meth cd Qt A ρ0 (m_X D ty s xs) (pc + 3) L st (m_set σ c i f x) k n) : m_J p l e R s m args below meth cd Qt A ρ0 (m_X D ty s xs) pc L (x :: .inr (.inr (some (c, i))) :: st) σ k n := by
  intro ρ H locs ls sw h1 h2 h3 h4 h5 h6
  cases sw with
  | nil => exact h6.elim
  | cons v sw =>
  obtain ⟨hv, h6⟩ := h6
  obtain ⟨rr, sw', rfl, hr, h7⟩ := m_sr_r h6
  cases rr with
  | none => exact hr.elim
  | some a =>
    have hr' : ρ c i = some a := hr
    obtain ⟨V, ⟨cell, q1, q2, q3, q4⟩, hV⟩ := m_objAt h2 hr' hc
    obtain ⟨t, ht, hty, hnm, hdecl, hok⟩ := m_fact c r hc
    obtain ⟨hS, hfc, kC, hkC, hkind⟩ := hK.1 c _ hc
    obtain ⟨cf, kf, fi, fd, hi, hsl⟩ := hS f hf
    have hi' : s.fieldFound? r.1 (r.2.1 f).2.1 (r.2.1 f).2.2.1 = some (cf, kf, fi, fd) := by rw [← hdecl f hf]; exact hi
    have hlt := m_cls_lt hc
    have hap := va_apart (own := own) HB hin t hty hnm hK hc
    have hst := (u_facts hfc hkC (u_lays HB hin hf) hi).1
    obtain ⟨hn1, hn2⟩ := m_fits_of (hok f hf) (by rw [← m_ty_obj ht]; exact hx0) hv
    have hlay := HB _ (hin _ (u_in_lay hf))
    unfold u_lay at hlay
    rw [if_pos hfin] at hlay
    have hcf : m.cls = cf := by
      obtain ⟨_, _, c', _, _, _, -, -, hf', -, -, -, hown2, -⟩ := Cond.laysFinal_spec hlay
      have e1 : c' = cf := by have := hi.symm.trans hf'; simp at this; exact this.1.symm
      rw [hdecl f hf, hro] at hown2
      rw [← e1]; exact Option.some.inj (hown.symm.trans hown2)
    have h8 := u_fits hfc hkC hkind (Or.inr hlay) hi (hty f hf) hn1 hn2
    refine W.putFinK hx hb hown hl hi' hst hcf hin2 (by rw [q2]; exact h8) q1 q3 (by rw [hsl]; exact k2_hasslot (q4 f hf)) rfl rfl hd fun H' e1 e2 e3 => ?_
    rw [hsl] at e1 ⊢
    refine K ρ H' _ ls _ h1 (h2.set hr' (by omega) (Or.inl ⟨r, hc, updV V f v, ⟨_, e1, q2, q3, t_set q4 hap hf v⟩, fun k' hk' => ?_⟩) e3) h3 (h4.put e2 e3 (h3 c i a (by omega) hr')) h5 h7
    by_cases e : k' = f
    · subst e
      rw [m_get_eq σ hx0, m_updV_eq]; exact hv
    · rw [m_get_ne σ x (fun z => e z.2.2), m_updV_ne _ _ e]; exact hV k' hk'
theorem m_j_alen (hx : p.tables.exec = Jvm.exec) (hb : cd.code = cc) (hown : s.vm.findClass own = some m.cls) (HB : ∀ w ∈ B, w.before args s = true) (hK : va_K D m_cls ty s) {j i : Nat} (hj : j < 9) (hd : decode cc pc = .ok (.arraylength, 1)) (K : m_J p l e R s m args below meth cd Qt A ρ0 (m_X D ty s xs) (pc + 1) L (.inl (Int32.ofNat (σ.2.1 (j + 13) i)) :: st) σ k n) : m_J p l e R s m args below meth cd Qt A ρ0 (m_X D ty s xs) pc L (.inr (.inr (some (j + 13, i))) :: st) σ k n := by
  intro ρ H locs ls sw h1 h2 h3 h4 h5 h6
  obtain ⟨rr, sw', rfl, hr, h7⟩ := m_sr_r h6
  cases rr with
  | none => exact hr.elim
  | some a =>
    obtain ⟨q, hq, g, hg, -⟩ := m_arrAt h2 hj (show ρ (j + 13) i = some a from hr)
    exact W.alen hx hb hg ((hK.2 j q hq).1 _ g) (by rw [arrV_size]) rfl rfl hd (K ρ H locs ls _ h1 h2 h3 h4 h5 ⟨rfl, h7⟩)
theorem m_j_iald (hx : p.tables.exec = Jvm.exec) (hb : cd.code = cc) (hown : s.vm.findClass own = some m.cls) (HB : ∀ w ∈ B, w.before args s = true) (hK : va_K D m_cls ty s) (hty : ty.map (fun q => q.2) = m_aty) {i : Nat} {x : Int32} (hin : vp_in x (σ.2.1 13 i)) (hd : decode cc pc = .ok (.iaload, 1)) (K : m_J p l e R s m args below meth cd Qt A ρ0 (m_X D ty s xs) (pc + 1) L (m_get σ 13 i x.toNatClampNeg :: st) σ k n) : m_J p l e R s m args below meth cd Qt A ρ0 (m_X D ty s xs) pc L (.inl x :: .inr (.inr (some (13, i))) :: st) σ k n := by
  intro ρ H locs ls sw h1 h2 h3 h4 h5 h6
  obtain ⟨_, rfl, u6⟩ := m_sr_i h6
  obtain ⟨rr, sw', rfl, hr, h7⟩ := m_sr_r u6
  cases rr with
  | none => exact hr.elim
  | some a =>
    have hlt : x.toNatClampNeg < σ.2.1 13 i := Nat.not_le.mp fun q => hin (Or.inr q)
    obtain ⟨q, hq, g, hg, hgv⟩ := m_arrAt (j := 0) h2 (by decide) hr
    have he : q.2 = .int := m_tyAt hty hq rfl
    exact W.iald (v := g x.toNatClampNeg) hx hb hg (by have := (hK.2 0 q hq).1 (σ.2.1 13 i) g; rw [he] at this; exact this) (fun q => by cases q) (by rw [arrV_size]; exact hin) (by rw [arrV_read _ _ hlt]) rfl rfl hd (K ρ H locs ls _ h1 h2 h3 h4 h5 ⟨hgv _ hlt, h7⟩)
theorem m_j_lald (hx : p.tables.exec = Jvm.exec) (hb : cd.code = cc) (hown : s.vm.findClass own = some m.cls) (HB : ∀ w ∈ B, w.before args s = true) (hK : va_K D m_cls ty s) (hty : ty.map (fun q => q.2) = m_aty) {i : Nat} {x : Int32} (hin : vp_in x (σ.2.1 14 i)) (hd : decode cc pc = .ok (.laload, 1)) (K : m_J p l e R s m args below meth cd Qt A ρ0 (m_X D ty s xs) (pc + 1) L (m_get σ 14 i x.toNatClampNeg :: st) σ k n) : m_J p l e R s m args below meth cd Qt A ρ0 (m_X D ty s xs) pc L (.inl x :: .inr (.inr (some (14, i))) :: st) σ k n := by
  intro ρ H locs ls sw h1 h2 h3 h4 h5 h6
  obtain ⟨_, rfl, u6⟩ := m_sr_i h6
  obtain ⟨rr, sw', rfl, hr, h7⟩ := m_sr_r u6
  cases rr with
  | none => exact hr.elim
  | some a =>
    have hlt : x.toNatClampNeg < σ.2.1 14 i := Nat.not_le.mp fun q => hin (Or.inr q)
    obtain ⟨q, hq, g, hg, hgv⟩ := m_arrAt (j := 1) h2 (by decide) hr
    have he : q.2 = .long := m_tyAt hty hq rfl
    exact W.lald (v := g x.toNatClampNeg) hx hb hg (by have := (hK.2 1 q hq).1 (σ.2.1 14 i) g; rw [he] at this; exact this) (fun q => by cases q) (by rw [arrV_size]; exact hin) (by rw [arrV_read _ _ hlt]) rfl rfl hd (K ρ H locs ls _ h1 h2 h3 h4 h5 ⟨hgv _ hlt, h7⟩)
theorem m_j_aldq (hx : p.tables.exec = Jvm.exec) (hb : cd.code = cc) (hown : s.vm.findClass own = some m.cls) (HB : ∀ w ∈ B, w.before args s = true) (hK : va_K D m_cls ty s) (hty : ty.map (fun q => q.2) = m_aty) {j i : Nat} {x : Int32} {t : FieldType} (hj : j < 9) (ht : m_aty[j]? = some t) (hrf : t.isReference = true) (hin : vp_in x (σ.2.1 (j + 13) i)) (hd : decode cc pc = .ok (.aaload, 1)) (K : m_J p l e R s m args below meth cd Qt A ρ0 (m_X D ty s xs) (pc + 1) L (m_get σ (j + 13) i x.toNatClampNeg :: st) σ k n) : m_J p l e R s m args below meth cd Qt A ρ0 (m_X D ty s xs) pc L (.inl x :: .inr (.inr (some (j + 13, i))) :: st) σ k n := by
  intro ρ H locs ls sw h1 h2 h3 h4 h5 h6
  obtain ⟨_, rfl, u6⟩ := m_sr_i h6
  obtain ⟨rr, sw', rfl, hr, h7⟩ := m_sr_r u6
  cases rr with
  | none => exact hr.elim
  | some a =>
    have hlt : x.toNatClampNeg < σ.2.1 (j + 13) i := Nat.not_le.mp fun q => hin (Or.inr q)
    obtain ⟨q, hq, g, hg, hgv⟩ := m_arrAt h2 hj (show ρ (j + 13) i = some a from hr)
    have he : q.2 = t := m_tyAt hty hq ht
    exact W.aald (v := g x.toNatClampNeg) (ty := t) hx hb hg (by have := (hK.2 j q hq).1 (σ.2.1 (j + 13) i) g; rw [he] at this; exact this) hrf (fun q => by cases q) (by rw [arrV_size]; exact hin) (by rw [arrV_read _ _ hlt]) rfl rfl hd (K ρ H locs ls _ h1 h2 h3 h4 h5 ⟨hgv _ hlt, h7⟩)
theorem m_j_iast (hx : p.tables.exec = Jvm.exec) (hb : cd.code = cc) (hown : s.vm.findClass own = some m.cls) (HB : ∀ w ∈ B, w.before args s = true) (hK : va_K D m_cls ty s) (hty : ty.map (fun q => q.2) = m_aty) {i : Nat} {x : Int32} {v : Int32} (hin : vp_in x (σ.2.1 13 i)) (hd : decode cc pc = .ok (.iastore, 1)) (K : m_J p l e R s m args below meth cd Qt A ρ0 (m_X D ty s xs) (pc + 1) L st (m_set σ 13 i x.toNatClampNeg (.inl v)) k n) : m_J p l e R s m args below meth cd Qt A ρ0 (m_X D ty s xs) pc L (.inl v :: .inl x :: .inr (.inr (some (13, i))) :: st) σ k n := by
  intro ρ H locs ls sw h1 h2 h3 h4 h5 h6
  obtain ⟨_, rfl, u6⟩ := m_sr_i h6
  obtain ⟨_, rfl, v6⟩ := m_sr_i u6
  obtain ⟨rr, sw', rfl, hr, h7⟩ := m_sr_r v6
  cases rr with
  | none => exact hr.elim
  | some a =>
    have hr' : ρ 13 i = some a := hr
    have hlt : x.toNatClampNeg < σ.2.1 13 i := Nat.not_le.mp fun q => hin (Or.inr q)
    obtain ⟨q, hq, g, hg, hgv⟩ := m_arrAt (j := 0) h2 (by decide) hr
    have he : q.2 = .int := m_tyAt hty hq rfl
    refine W.iast hx hb hg (by have := (hK.2 0 q hq).1 (σ.2.1 13 i) g; rw [he] at this; exact this) (fun q => by cases q) (by rw [arrV_size]; exact hin) rfl rfl hd (fun H1 e1 z oq => K ρ H1 _ ls _ h1 (h2.set hr' (by decide) (Or.inr ⟨0, q, rfl, hq, updV g x.toNatClampNeg (.int v), ?_, fun k' hk' => ?_⟩) oq) h3 (h4.put z oq (h3 _ i a (by omega) hr')) h5 h7)
    · rw [e1, m_set_2]
      exact congrArg some (arrV_store _ _ _ _ _)
    · by_cases e : k' = x.toNatClampNeg
      · subst e
        rw [m_get_eq σ (show m_tp (m_ty 13 x.toNatClampNeg) (.inl v) by rw [show m_ty 13 x.toNatClampNeg = 0 from m_ty_arr (j := 0) rfl]; exact Or.inl rfl), m_updV_eq]; rfl
      · rw [m_get_ne σ _ (fun z => e z.2.2), m_updV_ne _ _ e]; exact hgv k' (by rw [m_set_2] at hk'; exact hk')
theorem m_j_last (hx : p.tables.exec = Jvm.exec) (hb : cd.code = cc) (hown : s.vm.findClass own = some m.cls) (HB : ∀ w ∈ B, w.before args s = true) (hK : va_K D m_cls ty s) (hty : ty.map (fun q => q.2) = m_aty) {i : Nat} {x : Int32} {v : Int64} (hin : vp_in x (σ.2.1 14 i)) (hd : decode cc pc = .ok (.lastore, 1)) (K : m_J p l e R s m args below meth cd Qt A ρ0 (m_X D ty s xs) (pc + 1) L st (m_set σ 14 i x.toNatClampNeg (.inr (.inl v))) k n) : m_J p l e R s m args below meth cd Qt A ρ0 (m_X D ty s xs) pc L (.inr (.inl v) :: .inl x :: .inr (.inr (some (14, i))) :: st) σ k n := by
  intro ρ H locs ls sw h1 h2 h3 h4 h5 h6
  obtain ⟨_, rfl, u6⟩ := m_sr_l h6
  obtain ⟨_, rfl, v6⟩ := m_sr_i u6
  obtain ⟨rr, sw', rfl, hr, h7⟩ := m_sr_r v6
  cases rr with
  | none => exact hr.elim
  | some a =>
    have hr' : ρ 14 i = some a := hr
    have hlt : x.toNatClampNeg < σ.2.1 14 i := Nat.not_le.mp fun q => hin (Or.inr q)
    obtain ⟨q, hq, g, hg, hgv⟩ := m_arrAt (j := 1) h2 (by decide) hr
    have he : q.2 = .long := m_tyAt hty hq rfl
    refine W.last hx hb hg (by have := (hK.2 1 q hq).1 (σ.2.1 14 i) g; rw [he] at this; exact this) (fun q => by cases q) (by rw [arrV_size]; exact hin) rfl rfl hd (fun H1 e1 z oq => K ρ H1 _ ls _ h1 (h2.set hr' (by decide) (Or.inr ⟨1, q, rfl, hq, updV g x.toNatClampNeg (.long v), ?_, fun k' hk' => ?_⟩) oq) h3 (h4.put z oq (h3 _ i a (by omega) hr')) h5 h7)
    · rw [e1, m_set_2]
      exact congrArg some (arrV_store _ _ _ _ _)
    · by_cases e : k' = x.toNatClampNeg
      · subst e
        rw [m_get_eq σ (show m_tp (m_ty 14 x.toNatClampNeg) (.inr (.inl v)) by rw [show m_ty 14 x.toNatClampNeg = 1 from m_ty_arr (j := 1) rfl]; rfl), m_updV_eq]; rfl
      · rw [m_get_ne σ _ (fun z => e z.2.2), m_updV_ne _ _ e]; exact hgv k' (by rw [m_set_2] at hk'; exact hk')
theorem m_j_astq (hx : p.tables.exec = Jvm.exec) (hb : cd.code = cc) (hown : s.vm.findClass own = some m.cls) (HB : ∀ w ∈ B, w.before args s = true) (hK : va_K D m_cls ty s) (hty : ty.map (fun q => q.2) = m_aty) {j i c y : Nat} {x : Int32} {r : vw_C} (hj : j < 9) (hc : m_cls[c]? = some r) (ht : m_aty[j]? = some (.object r.1)) (hin : vp_in x (σ.2.1 (j + 13) i)) (hd : decode cc pc = .ok (.aastore, 1)) (K : m_J p l e R s m args below meth cd Qt A ρ0 (m_X D ty s xs) (pc + 1) L st (m_set σ (j + 13) i x.toNatClampNeg (.inr (.inr (some (c, y))))) k n) : m_J p l e R s m args below meth cd Qt A ρ0 (m_X D ty s xs) pc L (.inr (.inr (some (c, y))) :: .inl x :: .inr (.inr (some (j + 13, i))) :: st) σ k n := by
  intro ρ H locs ls sw h1 h2 h3 h4 h5 h6
  obtain ⟨rv, _, rfl, hrv, u6⟩ := m_sr_r h6
  obtain ⟨_, rfl, v6⟩ := m_sr_i u6
  obtain ⟨rr, sw', rfl, hr, h7⟩ := m_sr_r v6
  cases rv with
  | none => exact hrv.elim
  | some v =>
  cases rr with
  | none => exact hr.elim
  | some a =>
    have hr' : ρ (j + 13) i = some a := hr
    have hrv' : ρ c y = some v := hrv
    have hlt : x.toNatClampNeg < σ.2.1 (j + 13) i := Nat.not_le.mp fun q => hin (Or.inr q)
    have h0 : ¬ x < 0 := fun q => hin (Or.inl q)
    obtain ⟨q, hq, g, hg, hgv⟩ := m_arrAt h2 hj hr'
    have he : q.2 = .object r.1 := m_tyAt hty hq ht
    obtain ⟨V, ⟨cellV, g1, g2, g3, -⟩, -⟩ := m_objAt h2 hrv' hc
    have hcls := (hK.1 c r hc).2
    have hra := (hK.2 j q hq).2
    rw [he] at hra
    obtain ⟨kA, comp, k1, k2, k3, -⟩ := hra
    have hcomp : comp = D.1 c := Option.some.inj (k3.symm.trans hcls.1)
    subst hcomp
    obtain ⟨kC, hkC, -⟩ := hcls.2
    refine W.aast hx hb hg (fun q h => by cases h) (fun h => by cases h) k1 k2 rfl hkC ⟨h0, by rw [arrV_size]; exact hlt⟩ g1 (fun q h => by rw [g3] at h; cases h) (by rw [g2]; exact hkC) (by rw [g2]; exact va_assign hcls) rfl rfl hd (fun H1 e1 z oq => K ρ H1 _ ls _ h1 (h2.set hr' (by omega) (Or.inr ⟨j, q, rfl, hq, updV g x.toNatClampNeg (.ref v), ?_, fun k' hk' => ?_⟩) oq) h3 (h4.put z oq (h3 _ i a (by omega) hr')) h5 h7)
    · rw [e1, m_set_2]
      exact congrArg some (arrV_store _ _ _ _ _)
    · by_cases e : k' = x.toNatClampNeg
      · subst e
        rw [m_get_eq σ (show m_tp (m_ty (j + 13) _) _ by rw [m_ty_arr ht]; rfl), m_updV_eq]; exact ⟨v, hrv', rfl⟩
      · rw [m_get_ne σ _ (fun z => e z.2.2), m_updV_ne _ _ e]; exact hgv k' (by rw [m_set_2] at hk'; exact hk')
theorem m_j_new (hx : p.tables.exec = Jvm.exec) (hb : cd.code = cc) (hown : s.vm.findClass own = some m.cls) (HB : ∀ w ∈ B, w.before args s = true) (hK : va_K D m_cls ty s) (hA : ∀ q, s.heap.size ≤ q → A q) {c index : Nat} {r : vw_C} (hc : m_cls[c]? = some r) (hin : ∀ w ∈ u_ws r.1 r.2.1 r.2.2, w ∈ B) (hcl : (Cond.classLink own index r.1).before args s = true) (hinst : (Cond.instantiable r.1 r.2.2).before args s = true) (hini : (Cond.initialized r.1).before args s = true) (hcells : k + 1 ≤ R.cells) (hslots : n + r.2.2 ≤ R.slots) (hd : decode cc pc = .ok (.new index, 3)) (K : m_J p l e R s m args below meth cd Qt A ρ0 (m_X D ty s xs) (pc + 3) L (.inr (.inr (some (c, σ.1 c))) :: st) (m_nu σ c 0) (k + 1) (n + r.2.2)) : m_J p l e R s m args below meth cd Qt A ρ0 (m_X D ty s xs) pc L st σ k n := by
  intro ρ H locs ls sw h1 h2 h3 h4 h5 h6
  obtain ⟨t, ht, hty, -, -, hok⟩ := m_fact c r hc
  have hlt := m_cls_lt hc
  have hKn := hK.1 c _ hc
  refine W.newcK hx hb hown hcl hinst hini rfl hd hcells hslots hKn.2.1 rfl fun H1 kC hkC e1 z1 o1 => ?_
  obtain ⟨g1, g2, g3, g4⟩ := h2.nu (c := c) (n := 0) (by omega) (Nat.le_refl _) o1 (Or.inl ⟨r, hc, fun j => defaultValue (t j), u_born t HB hin hKn hkC e1 hty, fun k' hk' => by rw [m_nu_new, m_ty_obj ht]; exact m_zero_vr (hok k' hk')⟩)
  refine K _ H1 locs ls _ (h1.tr g2) g1 (fun c' i' a' h98 h' => ?_) ⟨Nat.le_trans h4.1 (by omega), fun q e2 e3 => (o1 q (Nat.lt_of_lt_of_le e2 h4.1)).trans (h4.2.1 q e2 e3), h4.2.2⟩ (h5.le g2) ⟨⟨_, g3, rfl⟩, h6.le g2⟩
  rcases g4 c' i' a' h' with z | z
  · rw [z]; exact hA _ h4.1
  · exact h3 _ _ _ h98 z
theorem m_j_newa (hx : p.tables.exec = Jvm.exec) (hb : cd.code = cc) (hown : s.vm.findClass own = some m.cls) (HB : ∀ w ∈ B, w.before args s = true) (hK : va_K D m_cls ty s) (hty : ty.map (fun q => q.2) = m_aty) (hA : ∀ q, s.heap.size ≤ q → A q) {atype : ArrayType} {j : Nat} {x : Int32} (hj : j < 3) (ht : m_aty[j]? = some (newarray.typeOf atype)) (harr : (Cond.arrayClass (newarray.typeOf atype)).before args s = true) (hn : ¬ x < 0) (hbytes : x.toNatClampNeg * componentBytes (newarray.typeOf atype) ≤ 536870912) (hcells : k + 1 ≤ R.cells) (hslots : n + x.toNatClampNeg ≤ R.slots) (hd : decode cc pc = .ok (.newarray atype, 2)) (K : m_J p l e R s m args below meth cd Qt A ρ0 (m_X D ty s xs) (pc + 2) L (.inr (.inr (some (j + 13, σ.1 (j + 13)))) :: st) (m_nu σ (j + 13) x.toNatClampNeg) (k + 1) (n + x.toNatClampNeg)) : m_J p l e R s m args below meth cd Qt A ρ0 (m_X D ty s xs) pc L (.inl x :: st) σ k n := by
  intro ρ H locs ls sw h1 h2 h3 h4 h5 h6
  obtain ⟨_, rfl, h7⟩ := m_sr_i h6
  refine va_newaK hx hb harr rfl hd rfl hn rfl hbytes hcells hslots rfl fun H1 cA e1 z1 o1 hAr hNm => ?_
  have hl : j < ty.length := by
    have : (ty.map (fun q => q.2)).length = 9 := by rw [hty]; rfl
    rw [List.length_map] at this; omega
  have hq : ty[j]? = some ty[j] := List.getElem?_eq_getElem hl
  have he : ty[j].2 = newarray.typeOf atype := m_tyAt hty hq ht
  have hra := (hK.2 j _ hq).2
  rw [he] at hra
  have hca : cA = ty[j].1 := by
    have h9 : s.vm.findClass ("[" ++ (newarray.typeOf atype).toString) = some ty[j].1 := by
      cases atype <;> exact hra
    exact Option.some.inj (hNm.symm.trans h9)
  subst hca
  have hok : m_okt (newarray.typeOf atype) = true := by
    have : j = 0 ∨ j = 1 ∨ j = 2 := by omega
    rcases this with rfl | rfl | rfl <;> (rw [← Option.some.inj ht]; rfl)
  obtain ⟨g1, g2, g3, g4⟩ := h2.nu (c := j + 13) (n := x.toNatClampNeg) (by omega) (Nat.le_refl _) o1 (Or.inr ⟨j, ty[j], rfl, hq, fun _ => defaultValue (newarray.typeOf atype), by rw [m_nu_lenN]; exact e1, fun k' hk' => by rw [m_nu_new, m_ty_arr ht]; exact m_zero_vr hok⟩)
  refine K _ H1 locs ls _ (h1.tr g2) g1 (fun c' i' a' h98 h' => ?_) ⟨Nat.le_trans h4.1 (by omega), fun q e2 e3 => (o1 q (Nat.lt_of_lt_of_le e2 h4.1)).trans (h4.2.1 q e2 e3), h4.2.2⟩ (h5.le g2) ⟨⟨_, g3, rfl⟩, h7.le g2⟩
  rcases g4 c' i' a' h' with z | z
  · rw [z]; exact hA _ h4.1
  · exact h3 _ _ _ h98 z
end MH
