/-! the step holds of the machine -/
def m_layB : Bool := m_cls.all (fun v => (u_ws v.1 v.2.1 v.2.2).all (fun w => lw_tbl.contains w && goodWord w))
theorem m_layB_ok : m_layB = true := by decide +kernel
theorem m_lay {c : Nat} {v : vw_C} (h : m_cls[c]? = some v) : ∀ w ∈ u_ws v.1 v.2.1 v.2.2, w ∈ m_BIG := by
  intro w hw
  have h1 := List.all_eq_true.mp (List.all_eq_true.mp m_layB_ok v (List.mem_of_getElem? h)) w hw
  simp only [Bool.and_eq_true] at h1
  exact List.mem_filter.mpr ⟨List.contains_iff_mem.mp h1.1, h1.2⟩
section MG
variable {p : Program} {l : Launch} {e : Env} {R : Room} {s : State} {m : MethodId} {args : Array Value} {below : List Frame} {meth : Method} {cd : Code} {Qt : State → Prop} {A : Nat → Prop} {ρ0 : Nat → Nat → Option Nat} {cc : ByteArray} {own : String} {D : va_G} {ty : List (ClassId × FieldType)} {xs : Option (Nat × (Nat → Int32))} {nL : Nat}
variable {pc k n mc ms : Nat} {L : List (Option mV)} {st : List mV} {σ : mS} {Q : mX → mS → Prop} {mt : List mMt} {rt : Option FieldType} {r : mRow} {ini : Bool}
theorem m_j_newq (C : m_C p l s m args meth cd cc own nL D ty A) {j c index : Nat} {x : Int32} {v : vw_C} (hj : j < 9) (hv : m_cls[c]? = some v) (ht : m_aty[j]? = some (.object v.1)) (hcl : Cond.classLink own index v.1 ∈ m_BIG) (hov : Cond.arrayOver (.object v.1) ∈ m_ODD) (hn : ¬ x < 0) (hbytes : x.toNatClampNeg * 4 ≤ 536870912) (hr : m_rm R (k + 1) (n + x.toNatClampNeg)) (hd : decode cc pc = .ok (.anewarray index, 3)) (K : m_J p l e R s m args below meth cd Qt A ρ0 (m_X D ty s xs) (pc + 3) L (.inr (.inr (some (j + 13, σ.1 (j + 13)))) :: st) (m_nu σ (j + 13) x.toNatClampNeg) (k + 1) (n + x.toNatClampNeg)) : m_J p l e R s m args below meth cd Qt A ρ0 (m_X D ty s xs) pc L (.inl x :: st) σ k n := by
  obtain ⟨hx, hb, hown, HB, HE, hA, hml, hlk, hl0⟩ := C
  intro ρ H locs ls sw h1 h2 h3 h4 h5 h6
  obtain ⟨_, rfl, h7⟩ := m_sr_i h6
  refine W.anew hx hb hown (HB _ hcl) (show va_AO v.1 s from HE.2.2.1 _ hov) rfl hd rfl hn hbytes hr.1 hr.2 fun cA kA comp f1 f2 f3 f4 => ?_
  generalize hH1 : H.push ({ cls := cA, slots := Array.replicate x.toNatClampNeg .null, vm := .none } : Cell) = H1
  have z1 : H1.size = H.size + 1 := by rw [← hH1, Array.size_push]
  have e1 : H1[H.size]? = some (arrV cA x.toNatClampNeg (fun _ => .null)) := by rw [← hH1, Array.getElem?_push_size, ← arrV_new]
  have o1 : ∀ q : Nat, q < H.size → H1[q]? = H[q]? := fun q hq => by rw [← hH1, Array.getElem?_push, if_neg (Nat.ne_of_lt hq)]
  have hl : j < ty.length := by
    have : (ty.map (fun q => q.2)).length = 9 := by rw [HE.2.1]; rfl
    rw [List.length_map] at this; omega
  have hq : ty[j]? = some ty[j] := List.getElem?_eq_getElem hl
  have he : ty[j].2 = .object v.1 := m_tyAt HE.2.1 hq ht
  have hra := (HE.1.2 j _ hq).2
  rw [he] at hra
  obtain ⟨kA', comp', g1, g2, g3, g4⟩ := hra
  have hca : cA = ty[j].1 := Option.some.inj (f1.symm.trans g4)
  subst hca
  obtain ⟨g1, g2, g3, g4⟩ := h2.nu (c := j + 13) (n := x.toNatClampNeg) (by omega) (Nat.le_refl _) o1 (Or.inr ⟨j, ty[j], rfl, hq, fun _ => .null, by rw [m_nu_lenN]; exact e1, fun k' hk' => by rw [m_nu_new, m_ty_arr ht]; rfl⟩)
  refine K _ H1 locs ls _ (h1.tr g2) g1 (fun c' i' a' h98 h' => ?_) ⟨Nat.le_trans h4.1 (by omega), fun q e2 e3 => (o1 q (Nat.lt_of_lt_of_le e2 h4.1)).trans (h4.2.1 q e2 e3), h4.2.2⟩ (h5.le g2) ⟨⟨_, g3, rfl⟩, h7.le g2⟩
  rcases g4 c' i' a' h' with z | z
  · rw [z]; exact hA _ h4.1
  · exact h3 _ _ _ h98 z
theorem m_j_obj (C : m_C p l s m args meth cd cc own nL D ty A) {index : Nat} {q : Nat × Nat} (hl : Cond.methodLink own index objectInit ∈ m_BIG) (hi : Cond.instanceMethod objectInit ∈ m_BIG) (hc : Cond.code objectInit ⟨#[0xb1]⟩ 1 none ∈ m_BIG) (hL : L.length = nL) (hf : 1 ≤ R.frames) (hlo : (st.map m_cat).sum + 12 ≤ R.locals) (hd : decode cc pc = .ok (.invokespecial index, 3)) (K : m_J p l e R s m args below meth cd Qt A ρ0 (m_X D ty s xs) (pc + 3) L st σ k n) : m_J p l e R s m args below meth cd Qt A ρ0 (m_X D ty s xs) pc L (.inr (.inr (some q)) :: st) σ k n := by
  obtain ⟨hx, hb, hown, HB, HE, hA, hml, hlk, hl0⟩ := C
  intro ρ H locs ls sw h1 h2 h3 h4 h5 h6
  obtain ⟨rr, sw', rfl, hr, h7⟩ := m_sr_r h6
  cases rr with
  | none => exact hr.elim
  | some a => exact W.objInit hx hb hown (HB _ hl) (HB _ hi) (HB _ hc) rfl (by show ls.size = _; rw [h5.1, hL, hml]) rfl hd hf (by rw [m_sr_sum h7]; show 2 * 0 + _ + 12 ≤ _; omega) (K ρ H locs ls _ h1 h2 h3 h4 h5 h7)
theorem m_j_math (C : m_C p l s m args meth cd cc own nL D ty A) {i : Nat} (hB : m_mathB own i r.2.2.1 r = true) (hini : Cond.initialized "java/lang/Math" ∈ m_BIG) (hf : 1 ≤ R.frames) (hL : L.length = nL) (hr : m_rm R k n) (hd : decode cc pc = .ok (.invokestatic i, 3)) {K : List mV → Prop} (h : m_s_math R r.2.2.1 st K) (hK : ∀ st, K st → m_J p l e R s m args below meth cd Qt A ρ0 (m_X D ty s xs) (pc + 3) L st σ k n) : m_J p l e R s m args below meth cd Qt A ρ0 (m_X D ty s xs) pc L st σ k n := by
  obtain ⟨hx, hb, hown, HB, HE, hA, hml, hlk, hl0⟩ := C
  intro ρ H locs ls sw h1 h2 h3 h4 h5 h6
  have hsz : cd.maxLocals = ls.size := by rw [h5.1, hL, hml]
  unfold m_s_math at h
  split at h
  · rename_i heq
    rw [heq] at hB
    simp only [m_mathB, Bool.and_eq_true] at hB
    obtain ⟨_, rfl, h7⟩ := m_sr_i h6
    obtain ⟨_, rfl, h8⟩ := m_sr_i h7
    exact va_mmax hx hb hsz hown (HB _ (m_wd_ok hB.1.1)) (HB _ (m_wd_ok hB.1.2)) (HB _ hini) (HB _ (m_wd_ok hB.2)) hf (by rw [m_sr_sum h8]; exact h.1) hr.1 hr.2 hd (hK _ h.2 ρ H locs ls _ h1 h2 h3 h4 h5 ⟨rfl, h8⟩)
  · rename_i heq
    rw [heq] at hB
    simp only [m_mathB, Bool.and_eq_true] at hB
    obtain ⟨_, rfl, h7⟩ := m_sr_i h6
    obtain ⟨_, rfl, h8⟩ := m_sr_i h7
    exact va_mmin hx hb hsz hown (HB _ (m_wd_ok hB.1.1)) (HB _ (m_wd_ok hB.1.2)) (HB _ hini) (HB _ (m_wd_ok hB.2)) hf (by rw [m_sr_sum h8]; exact h.1) hr.1 hr.2 hd (hK _ h.2 ρ H locs ls _ h1 h2 h3 h4 h5 ⟨rfl, h8⟩)
  · rename_i heq
    rw [heq] at hB
    simp only [m_mathB, Bool.and_eq_true] at hB
    obtain ⟨_, rfl, h8⟩ := m_sr_i h6
    exact va_mabs hx hb hsz hown (HB _ (m_wd_ok hB.1.1)) (HB _ (m_wd_ok hB.1.2)) (HB _ hini) (HB _ (m_wd_ok hB.2)) hf (by rw [m_sr_sum h8]; exact h.1) hr.1 hr.2 hd (hK _ h.2 ρ H locs ls _ h1 h2 h3 h4 h5 ⟨rfl, h8⟩)
  · rename_i heq
    rw [heq] at hB
    simp only [m_mathB, Bool.and_eq_true] at hB
    obtain ⟨_, rfl, h7⟩ := m_sr_l h6
    obtain ⟨_, rfl, h8⟩ := m_sr_l h7
    exact va_mmax_long hx hb hsz hown (HB _ (m_wd_ok hB.1.1)) (HB _ (m_wd_ok hB.1.2)) (HB _ hini) (HB _ (m_wd_ok hB.2)) hf (by rw [m_sr_sum h8]; exact h.1) hr.1 hr.2 hd (hK _ h.2 ρ H locs ls _ h1 h2 h3 h4 h5 ⟨rfl, h8⟩)
  · rename_i heq
    rw [heq] at hB
    simp only [m_mathB, Bool.and_eq_true] at hB
    obtain ⟨_, rfl, h7⟩ := m_sr_l h6
    obtain ⟨_, rfl, h8⟩ := m_sr_l h7
    exact va_mmin_long hx hb hsz hown (HB _ (m_wd_ok hB.1.1)) (HB _ (m_wd_ok hB.1.2)) (HB _ hini) (HB _ (m_wd_ok hB.2)) hf (by rw [m_sr_sum h8]; exact h.1) hr.1 hr.2 hd (hK _ h.2 ρ H locs ls _ h1 h2 h3 h4 h5 ⟨rfl, h8⟩)
  · exact h.elim
theorem m_xAt {ρ : Nat → Nat → Option Nat} {H : Heap} (h : m_X D ty s xs ρ σ H) {z : Nat × (Nat → Int32)} (hz : xs = some z) {i a : Nat} (ha : ρ 98 i = some a) : va_X a z.1 z.2 s H := by
  rcases h.2.2.2 98 i a ha with ⟨-, q, h2, h3⟩ | ⟨h1, -⟩
  · rw [hz] at h2
    cases h2
    exact h3
  · exact absurd rfl h1
theorem m_j_slen (C : m_C p l s m args meth cd cc own nL D ty A) {z : Nat × (Nat → Int32)} {v0 : mV} (hi : m_isx (v0 :: st) 0 = true) (hn0 : z.1 < 2147483648) (hd : decode cc pc = .ok (.arraylength, 1)) (K : m_J p l e R s m args below meth cd Qt A ρ0 (m_X D ty s (some z)) (pc + 1) L (.inl (Int32.ofNat z.1) :: st) σ k n) : m_J p l e R s m args below meth cd Qt A ρ0 (m_X D ty s (some z)) pc L (v0 :: st) σ k n := by
  obtain ⟨hx, hb, hown, HB, HE, hA, hml, hlk, hl0⟩ := C
  rcases v0 with a | a | _ | ⟨q1, q2⟩
  · cases hi
  · cases hi
  · cases hi
  · have e : q1 = 98 := Nat.eq_of_beq_eq_true hi
    subst e
    intro ρ H locs ls sw h1 h2 h3 h4 h5 h6
    obtain ⟨rr, sw', rfl, hr, h7⟩ := m_sr_r h6
    cases rr with
    | none => exact hr.elim
    | some a =>
      obtain ⟨scr, g1, g2, g3, g4, g5⟩ := m_xAt h2 rfl (show ρ 98 q2 = some a from hr)
      exact W.alen hx hb g1 g2 (by rw [g4]) rfl rfl hd (K ρ H locs ls _ h1 h2 h3 h4 h5 ⟨rfl, h7⟩)
theorem m_j_sld (C : m_C p l s m args meth cd cc own nL D ty A) {z : Nat × (Nat → Int32)} {v0 : mV} {x : Int32} (hi : m_isx (.inl x :: v0 :: st) 1 = true) (hin : vp_in x z.1) (hd : decode cc pc = .ok (.iaload, 1)) (K : m_J p l e R s m args below meth cd Qt A ρ0 (m_X D ty s (some z)) (pc + 1) L (.inl (z.2 x.toNatClampNeg) :: st) σ k n) : m_J p l e R s m args below meth cd Qt A ρ0 (m_X D ty s (some z)) pc L (.inl x :: v0 :: st) σ k n := by
  obtain ⟨hx, hb, hown, HB, HE, hA, hml, hlk, hl0⟩ := C
  rcases v0 with a | a | _ | ⟨q1, q2⟩
  · cases hi
  · cases hi
  · cases hi
  · have e : q1 = 98 := Nat.eq_of_beq_eq_true hi
    subst e
    intro ρ H locs ls sw h1 h2 h3 h4 h5 h6
    obtain ⟨_, rfl, u6⟩ := m_sr_i h6
    obtain ⟨rr, sw', rfl, hr, h7⟩ := m_sr_r u6
    cases rr with
    | none => exact hr.elim
    | some a =>
      obtain ⟨scr, g1, g2, g3, g4, g5⟩ := m_xAt h2 rfl (show ρ 98 q2 = some a from hr)
      exact W.iald hx hb g1 g2 g3 (by rw [g4]; exact hin) (g5 _ (Nat.not_le.mp fun q => hin (Or.inr q))) rfl rfl hd (K ρ H locs ls _ h1 h2 h3 h4 h5 ⟨rfl, h7⟩)
end MG
