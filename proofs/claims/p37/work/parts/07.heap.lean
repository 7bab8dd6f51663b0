/-! the model's heap beside the machine's -/
def m_cls : List vw_C := [(RX0, TX0, 3), (RX1, TX1, 9), (RX2, TX2, 11), (RX3, TX3, 6), (RX4, TX4, 2), (RX5, TX5, 3), (RX6, TX6, 11), (RX7, TX7, 13), (RX8, TX8, 9), (RX9, TX9, 2), (RX10, TX10, 10), (RX11, TX11, 6), (RX0, TX0, 3)]
def m_tys : List (Nat → FieldType) := [tyX0, tyX1, tyX2, tyX3, tyX4, tyX5, tyX6, tyX7, tyX8, tyX9, tyX10, tyX11, tyX0]
/-- kinds of arrays: their classes are 13 and on -/
def m_aty : List FieldType := [.int, .long, .int, .object "NettingHall$Member", .object "NettingHall$Order", .object "NettingHall$Paper", .object "NettingHall$Reader", .object "NettingHall$Trade", .array .int]
def m_ty (c k : Nat) : Nat := match m_tys[c]? with
  | some t => m_tt (t k)
  | none => match m_aty[c - 13]? with
    | some t => m_tt t
    | none => 0
def m_get (σ : mS) (c i k : Nat) : mV := match m_ty c k with
  | 1 => .inr (.inl (m_l σ c i k))
  | 2 => .inr (.inr (m_r σ c i k))
  | _ => .inl (m_i σ c i k)
def m_set (σ : mS) (c i k : Nat) (x : mV) : mS := match x with
  | .inl v => m_ci σ c i k v
  | .inr (.inl v) => m_cl σ c i k v
  | .inr (.inr v) => m_cr σ c i k v
/-- a value of the kind t -/
def m_tp (t : Nat) (x : mV) : Prop := match x with
  | .inl v => t = 0 ∨ (t = 3 ∧ (v = 0 ∨ v = 1))
  | .inr (.inl _) => t = 1
  | .inr (.inr _) => t = 2
theorem m_up_eq {α : Type} (f : Nat → Nat → Nat → α) (c k i : Nat) (v : α) : m_up f c k i v c k i = v := by simp [m_up]
theorem m_up_ne {α : Type} (f : Nat → Nat → Nat → α) {c k i c' k' i' : Nat} (v : α) (h : ¬ (c' = c ∧ k' = k ∧ i' = i)) : m_up f c k i v c' k' i' = f c' k' i' := by
  unfold m_up
  by_cases h1 : c' = c
  · by_cases h2 : k' = k
    · by_cases h3 : i' = i
      · exact absurd ⟨h1, h2, h3⟩ h
      · simp [h1, h2, h3]
    · simp [h1, h2]
  · simp [h1]
theorem m_set_1 (σ : mS) (c i k : Nat) (x : mV) : (m_set σ c i k x).1 = σ.1 := by rcases x with a | a | a <;> rfl
theorem m_set_2 (σ : mS) (c i k : Nat) (x : mV) : (m_set σ c i k x).2.1 = σ.2.1 := by rcases x with a | a | a <;> rfl
theorem m_get_ne (σ : mS) {c i k c' i' k' : Nat} (x : mV) (h : ¬ (c' = c ∧ i' = i ∧ k' = k)) : m_get (m_set σ c i k x) c' i' k' = m_get σ c' i' k' := by
  rcases x with a | a | a <;> simp only [m_set, m_ci, m_cl, m_cr, m_get, m_i, m_l, m_r, m_up_ne _ a h]
theorem m_get_eq (σ : mS) {c i k : Nat} {x : mV} (h : m_tp (m_ty c k) x) : m_get (m_set σ c i k x) c i k = x := by
  rcases x with a | a | a
  · have h' : m_ty c k = 0 ∨ (m_ty c k = 3 ∧ (a = 0 ∨ a = 1)) := h
    rcases h' with h' | ⟨h', -⟩ <;> simp only [m_set, m_ci, m_get, m_i, h', m_up_eq]
  · have h' : m_ty c k = 1 := h
    simp only [m_set, m_cl, m_get, m_l, h', m_up_eq]
  · have h' : m_ty c k = 2 := h
    simp only [m_set, m_cr, m_get, m_r, h', m_up_eq]
def m_zi {α : Type} (f : Nat → Nat → Nat → α) (c i : Nat) (v : α) : Nat → Nat → Nat → α := fun c' i' k' => if c' = c then (if i' = i then v else f c' i' k') else f c' i' k'
/-- one more of the class c (an array's length is n), all of it zero -/
def m_nu (σ : mS) (c n : Nat) : mS := (fun c' => if c' = c then σ.1 c' + 1 else σ.1 c', fun c' i' => if c' = c then (if i' = σ.1 c then n else σ.2.1 c' i') else σ.2.1 c' i', m_zi σ.2.2.1 c (σ.1 c) 0, m_zi σ.2.2.2.1 c (σ.1 c) 0, m_zi σ.2.2.2.2 c (σ.1 c) none)
def m_zero (t : Nat) : mV := match t with
  | 1 => .inr (.inl 0)
  | 2 => .inr (.inr none)
  | _ => .inl 0
theorem m_nu_old (σ : mS) {c n c' i' k' : Nat} (h : ¬ (c' = c ∧ i' = σ.1 c)) : m_get (m_nu σ c n) c' i' k' = m_get σ c' i' k' := by
  have key : ∀ {α : Type} (f : Nat → Nat → Nat → α) (v : α), m_zi f c (σ.1 c) v c' i' k' = f c' i' k' := by
    intro α f v
    unfold m_zi
    by_cases h1 : c' = c
    · by_cases h2 : i' = σ.1 c
      · exact absurd ⟨h1, h2⟩ h
      · simp [h1, h2]
    · simp [h1]
  simp only [m_get, m_i, m_l, m_r, m_nu, key]
theorem m_nu_new (σ : mS) {c n k : Nat} : m_get (m_nu σ c n) c (σ.1 c) k = m_zero (m_ty c k) := by
  have key : ∀ {α : Type} (f : Nat → Nat → Nat → α) (v : α), m_zi f c (σ.1 c) v c (σ.1 c) k = v := by
    intro α f v
    simp [m_zi]
  simp only [m_get, m_i, m_l, m_r, m_nu, key]
  unfold m_zero
  split <;> rfl
theorem m_nu_len (σ : mS) {c n c' i' : Nat} (h : ¬ (c' = c ∧ i' = σ.1 c)) : (m_nu σ c n).2.1 c' i' = σ.2.1 c' i' := by
  show (if c' = c then (if i' = σ.1 c then n else σ.2.1 c' i') else σ.2.1 c' i') = _
  by_cases h1 : c' = c
  · by_cases h2 : i' = σ.1 c
    · exact absurd ⟨h1, h2⟩ h
    · simp [h1, h2]
  · simp [h1]
theorem m_nu_lenN (σ : mS) {c n : Nat} : (m_nu σ c n).2.1 c (σ.1 c) = n := by simp [m_nu]
theorem m_nu_cnt (σ : mS) {c n : Nat} : (m_nu σ c n).1 c = σ.1 c + 1 := by simp [m_nu]
theorem m_nu_cntO (σ : mS) {c n c' : Nat} (h : c' ≠ c) : (m_nu σ c n).1 c' = σ.1 c' := by simp [m_nu, h]
/-- types that occur -/
def m_okt (t : FieldType) : Bool := match t with
  | .int => true
  | .long => true
  | .boolean => true
  | .object _ => true
  | .array _ => true
  | _ => false
theorem m_zero_vr {ρ : Nat → Nat → Option Nat} {t : FieldType} (h : m_okt t = true) : m_vr ρ (m_zero (m_tt t)) (defaultValue t) := by
  cases t <;> first | rfl | (cases h; done)
theorem m_fits_of {ρ : Nat → Nat → Option Nat} {t : FieldType} {x : mV} {w : Value} (h : m_okt t = true) (hx : m_tp (m_tt t) x) (hw : m_vr ρ x w) : narrow t w = w ∧ fits t w = true := by
  rcases x with a | a | _ | q
  · cases (show w = .int a from hw)
    cases t with
    | int => exact ⟨rfl, rfl⟩
    | boolean =>
      have hx' : (3 : Nat) = 0 ∨ ((3 : Nat) = 3 ∧ (a = 0 ∨ a = 1)) := hx
      rcases hx' with h | ⟨-, h | h⟩
      · cases h
      · subst h; exact ⟨by decide, by decide⟩
      · subst h; exact ⟨by decide, by decide⟩
    | long => have hx' : (1 : Nat) = 0 ∨ ((1 : Nat) = 3 ∧ (a = 0 ∨ a = 1)) := hx; omega
    | object n => have hx' : (2 : Nat) = 0 ∨ ((2 : Nat) = 3 ∧ (a = 0 ∨ a = 1)) := hx; omega
    | array n => have hx' : (2 : Nat) = 0 ∨ ((2 : Nat) = 3 ∧ (a = 0 ∨ a = 1)) := hx; omega
    | _ => cases h
  · cases (show w = .long a from hw)
    cases t <;> first | exact ⟨rfl, rfl⟩ | (cases h; done) | (exact absurd (show (2 : Nat) = 1 from hx) (by decide)) | (exact absurd (show (0 : Nat) = 1 from hx) (by decide)) | (exact absurd (show (3 : Nat) = 1 from hx) (by decide))
  · cases (show w = .null from hw)
    cases t <;> first | exact ⟨rfl, rfl⟩ | (cases h; done) | (exact absurd (show (1 : Nat) = 2 from hx) (by decide)) | (exact absurd (show (0 : Nat) = 2 from hx) (by decide)) | (exact absurd (show (3 : Nat) = 2 from hx) (by decide))
  · obtain ⟨a, -, h2⟩ := hw
    cases h2
    cases t <;> first | exact ⟨rfl, rfl⟩ | (cases h; done) | (exact absurd (show (1 : Nat) = 2 from hx) (by decide)) | (exact absurd (show (0 : Nat) = 2 from hx) (by decide)) | (exact absurd (show (3 : Nat) = 2 from hx) (by decide))
/-- what is printed of a class -/
theorem m_fact : ∀ (c : Nat) (r : vw_C), m_cls[c]? = some r → ∃ t, m_tys[c]? = some t ∧ (∀ k, k < r.2.2 → parseFieldDescriptor (r.2.1 k).2.2.1 = some (t k)) ∧ (∀ a, a < r.2.2 → ∀ b, b < r.2.2 → a ≠ b → (r.2.1 a).2.1 ≠ (r.2.1 b).2.1) ∧ (∀ k, k < r.2.2 → (r.2.1 k).1 = r.1) ∧ ∀ k, k < r.2.2 → m_okt (t k) = true := by
  intro c r h
  match c, h with
  | 0, h => cases h; exact ⟨tyX0, rfl, tyX0_ok, nmX0, by decide +kernel, by decide +kernel⟩
  | 1, h => cases h; exact ⟨tyX1, rfl, tyX1_ok, nmX1, by decide +kernel, by decide +kernel⟩
  | 2, h => cases h; exact ⟨tyX2, rfl, tyX2_ok, nmX2, by decide +kernel, by decide +kernel⟩
  | 3, h => cases h; exact ⟨tyX3, rfl, tyX3_ok, nmX3, by decide +kernel, by decide +kernel⟩
  | 4, h => cases h; exact ⟨tyX4, rfl, tyX4_ok, nmX4, by decide +kernel, by decide +kernel⟩
  | 5, h => cases h; exact ⟨tyX5, rfl, tyX5_ok, nmX5, by decide +kernel, by decide +kernel⟩
  | 6, h => cases h; exact ⟨tyX6, rfl, tyX6_ok, nmX6, by decide +kernel, by decide +kernel⟩
  | 7, h => cases h; exact ⟨tyX7, rfl, tyX7_ok, nmX7, by decide +kernel, by decide +kernel⟩
  | 8, h => cases h; exact ⟨tyX8, rfl, tyX8_ok, nmX8, by decide +kernel, by decide +kernel⟩
  | 9, h => cases h; exact ⟨tyX9, rfl, tyX9_ok, nmX9, by decide +kernel, by decide +kernel⟩
  | 10, h => cases h; exact ⟨tyX10, rfl, tyX10_ok, nmX10, by decide +kernel, by decide +kernel⟩
  | 11, h => cases h; exact ⟨tyX11, rfl, tyX11_ok, nmX11, by decide +kernel, by decide +kernel⟩
  | 12, h => cases h; exact ⟨tyX0, rfl, tyX0_ok, nmX0, by decide +kernel, by decide +kernel⟩
  | n + 13, h => cases h
theorem m_cls_lt {c : Nat} {r : vw_C} (h : m_cls[c]? = some r) : c < 13 := (List.getElem?_eq_some_iff.mp h).1
theorem m_ty_obj {c k : Nat} {t : Nat → FieldType} (h : m_tys[c]? = some t) : m_ty c k = m_tt (t k) := by simp [m_ty, h]
theorem m_ty_arr {j k : Nat} {t : FieldType} (h : m_aty[j]? = some t) : m_ty (j + 13) k = m_tt t := by
  have h0 : m_tys[j + 13]? = none := List.getElem?_eq_none (by show 13 ≤ j + 13; omega)
  have h1 : m_aty[j + 13 - 13]? = some t := by rw [Nat.add_sub_cancel]; exact h
  unfold m_ty
  rw [h0]
  show (match m_aty[j + 13 - 13]? with | some t => m_tt t | none => 0) = m_tt t
  rw [h1]
/-- the thing (c, i) lies at a: an object, or an array -/
def m_cell (D : va_G) (ty : List (ClassId × FieldType)) (ρ : Nat → Nat → Option Nat) (σ : mS) (c i a : Nat) (H : Heap) : Prop :=
  (∃ r, m_cls[c]? = some r ∧ ∃ V, t_OB a (D.1 c) r.2.2 (D.2 c) H V ∧ ∀ k, k < r.2.2 → m_vr ρ (m_get σ c i k) (V k)) ∨
  (∃ j q, c = j + 13 ∧ ty[j]? = some q ∧ ∃ g, H[a]? = some (arrV q.1 (σ.2.1 c i) g) ∧ ∀ k, k < σ.2.1 c i → m_vr ρ (m_get σ c i k) (g k))
/-- the whole of it; the law's script is the thing (98, 0) -/
def m_X (D : va_G) (ty : List (ClassId × FieldType)) (s : State) (xs : Option (Nat × (Nat → Int32))) (ρ : Nat → Nat → Option Nat) (σ : mS) (H : Heap) : Prop :=
  (∀ c i c' i' a, ρ c i = some a → ρ c' i' = some a → c = c' ∧ i = i') ∧ (∀ c i, i < σ.1 c → ∃ a, ρ c i = some a) ∧ (∀ c i a, ρ c i = some a → i < σ.1 c) ∧
  ∀ c i a, ρ c i = some a → (c = 98 ∧ ∃ q, xs = some q ∧ va_X a q.1 q.2 s H) ∨ (c ≠ 98 ∧ m_cell D ty ρ σ c i a H)
theorem m_cell.lt {D : va_G} {ty : List (ClassId × FieldType)} {ρ : Nat → Nat → Option Nat} {σ : mS} {c i a : Nat} {H : Heap} (h : m_cell D ty ρ σ c i a H) : a < H.size := by
  rcases h with ⟨r, -, V, ⟨cell, h, -⟩, -⟩ | ⟨j, q, -, -, g, h, -⟩
  · exact (Array.getElem?_eq_some_iff.mp h).1
  · exact (Array.getElem?_eq_some_iff.mp h).1
theorem m_X.lt {D : va_G} {ty : List (ClassId × FieldType)} {s : State} {xs : Option (Nat × (Nat → Int32))} {ρ : Nat → Nat → Option Nat} {σ : mS} {H : Heap} (h : m_X D ty s xs ρ σ H) {c i a : Nat} (ha : ρ c i = some a) : a < H.size := by
  rcases h.2.2.2 c i a ha with ⟨-, q, -, scr, h1, -⟩ | ⟨-, h1⟩
  · exact (Array.getElem?_eq_some_iff.mp h1).1
  · exact h1.lt
/-- it stays where neither the heap nor the model is changed -/
theorem m_cell.to {D : va_G} {ty : List (ClassId × FieldType)} {ρ ρ' : Nat → Nat → Option Nat} {σ σ' : mS} {c i a : Nat} {H H' : Heap} (h : m_cell D ty ρ σ c i a H) (hρ : m_le ρ ρ') (hg : ∀ k, m_get σ' c i k = m_get σ c i k) (hl : σ'.2.1 c i = σ.2.1 c i) (hq : H'[a]? = H[a]?) : m_cell D ty ρ' σ' c i a H' := by
  rcases h with ⟨r, h1, V, h2, h3⟩ | ⟨j, q, h1, h2, g, h3, h4⟩
  · exact Or.inl ⟨r, h1, V, h2.kept hq, fun k hk => by rw [hg]; exact (h3 k hk).le hρ⟩
  · exact Or.inr ⟨j, q, h1, h2, g, by rw [hq, hl]; exact h3, fun k hk => by rw [hg]; exact (h4 k (by rw [hl] at hk; exact hk)).le hρ⟩
theorem m_X.set {D : va_G} {ty : List (ClassId × FieldType)} {s : State} {xs : Option (Nat × (Nat → Int32))} {ρ : Nat → Nat → Option Nat} {σ : mS} {H H' : Heap} (h : m_X D ty s xs ρ σ H) {c i k a : Nat} {x : mV} (ha : ρ c i = some a) (hc : c ≠ 98) (hn : m_cell D ty ρ (m_set σ c i k x) c i a H') (hq : ∀ q, q ≠ a → H'[q]? = H[q]?) : m_X D ty s xs ρ (m_set σ c i k x) H' := by
  refine ⟨h.1, by rw [m_set_1]; exact h.2.1, by rw [m_set_1]; exact h.2.2.1, fun c' i' a' ha' => ?_⟩
  by_cases e : c' = c ∧ i' = i
  · obtain ⟨rfl, rfl⟩ := e
    cases ha.symm.trans ha'
    exact Or.inr ⟨hc, hn⟩
  · have hne : a' ≠ a := fun z => e (h.1 c' i' c i a (by rw [← z]; exact ha') ha)
    rcases h.2.2.2 c' i' a' ha' with ⟨h1, q, h2, h3⟩ | ⟨h1, h2⟩
    · exact Or.inl ⟨h1, q, h2, h3.kept (hq a' hne)⟩
    · exact Or.inr ⟨h1, h2.to m_le.rf (fun k' => m_get_ne σ x (fun z => e ⟨z.1, z.2.1⟩)) (by rw [m_set_2]) (hq a' hne)⟩
/-- one more thing, at a new address -/
def m_ad (ρ : Nat → Nat → Option Nat) (c i a : Nat) : Nat → Nat → Option Nat := fun c' i' => if c' = c ∧ i' = i then some a else ρ c' i'
theorem m_X.nu {D : va_G} {ty : List (ClassId × FieldType)} {s : State} {xs : Option (Nat × (Nat → Int32))} {ρ : Nat → Nat → Option Nat} {σ : mS} {H H' : Heap} (h : m_X D ty s xs ρ σ H) {c n a : Nat} (hc : c ≠ 98) (ha : H.size ≤ a) (hq : ∀ q, q < H.size → H'[q]? = H[q]?) (hn : m_cell D ty (m_ad ρ c (σ.1 c) a) (m_nu σ c n) c (σ.1 c) a H') :
    m_X D ty s xs (m_ad ρ c (σ.1 c) a) (m_nu σ c n) H' ∧ m_le ρ (m_ad ρ c (σ.1 c) a) ∧ m_ad ρ c (σ.1 c) a c (σ.1 c) = some a ∧ ∀ c' i' a', m_ad ρ c (σ.1 c) a c' i' = some a' → a' = a ∨ ρ c' i' = some a' := by
  have hno : ∀ a', ¬ ρ c (σ.1 c) = some a' := fun a' z => Nat.lt_irrefl _ (h.2.2.1 c (σ.1 c) a' z)
  have hle : m_le ρ (m_ad ρ c (σ.1 c) a) := by
    intro c' i' a' h'
    unfold m_ad
    by_cases e : c' = c ∧ i' = σ.1 c
    · obtain ⟨rfl, rfl⟩ := e
      exact absurd h' (hno a')
    · rw [if_neg e]; exact h'
  have hs : m_ad ρ c (σ.1 c) a c (σ.1 c) = some a := if_pos ⟨rfl, rfl⟩
  have hcase : ∀ c' i' a', m_ad ρ c (σ.1 c) a c' i' = some a' → (c' = c ∧ i' = σ.1 c ∧ a' = a) ∨ (¬ (c' = c ∧ i' = σ.1 c) ∧ ρ c' i' = some a') := by
    intro c' i' a' h'
    unfold m_ad at h'
    by_cases e : c' = c ∧ i' = σ.1 c
    · rw [if_pos e] at h'; cases h'; exact Or.inl ⟨e.1, e.2, rfl⟩
    · rw [if_neg e] at h'; exact Or.inr ⟨e, h'⟩
  refine ⟨⟨?_, ?_, ?_, ?_⟩, hle, hs, fun c' i' a' h' => (hcase c' i' a' h').elim (fun z => Or.inl z.2.2) (fun z => Or.inr z.2)⟩
  · intro c1 i1 c2 i2 a' e1 e2
    rcases hcase _ _ _ e1 with ⟨p1, p2, p3⟩ | ⟨p1, p2⟩ <;> rcases hcase _ _ _ e2 with ⟨q1, q2, q3⟩ | ⟨q1, q2⟩
    · exact ⟨p1.trans q1.symm, p2.trans q2.symm⟩
    · have := h.lt q2; omega
    · have := h.lt p2; omega
    · exact h.1 _ _ _ _ _ p2 q2
  · intro c' i' h'
    by_cases e : c' = c
    · subst e
      rw [m_nu_cnt] at h'
      by_cases e2 : i' = σ.1 c'
      · subst e2; exact ⟨a, hs⟩
      · obtain ⟨a', g⟩ := h.2.1 c' i' (by omega)
        exact ⟨a', hle _ _ _ g⟩
    · rw [m_nu_cntO σ e] at h'
      obtain ⟨a', g⟩ := h.2.1 c' i' h'
      exact ⟨a', hle _ _ _ g⟩
  · intro c' i' a' h'
    rcases hcase _ _ _ h' with ⟨rfl, rfl, -⟩ | ⟨-, g⟩
    · rw [m_nu_cnt]; omega
    · have g' := h.2.2.1 _ _ _ g
      by_cases e : c' = c
      · subst e; rw [m_nu_cnt]; omega
      · rw [m_nu_cntO σ e]; exact g'
  · intro c' i' a' h'
    rcases hcase _ _ _ h' with ⟨rfl, rfl, rfl⟩ | ⟨e, g⟩
    · exact Or.inr ⟨hc, hn⟩
    · have hlt := h.lt g
      rcases h.2.2.2 c' i' a' g with ⟨h1, q, h2, h3⟩ | ⟨h1, h2⟩
      · exact Or.inl ⟨h1, q, h2, h3.kept (hq a' hlt)⟩
      · exact Or.inr ⟨h1, h2.to hle (fun k' => m_nu_old σ e) (m_nu_len σ e) (hq a' hlt)⟩
