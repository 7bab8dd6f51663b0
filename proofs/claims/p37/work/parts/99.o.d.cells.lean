/-! the cells that make a hall's form: none but the constructors write them -/
def hp_c (c k : Nat) : Bool := match c with
  | 0 => Nat.beq k 0 || Nat.ble 3 k
  | 2 => Nat.blt k 5 || Nat.ble 11 k
  | 4 => true
  | 6 => Nat.blt k 2 || Nat.ble 11 k
  | 7 => Nat.beq k 0
  | 8 => Nat.beq k 0 || Nat.ble 9 k
  | 16 => true
  | 17 => true
  | 18 => true
  | 20 => true
  | 21 => true
  | _ => false
def tr_k (r : mRow) : Bool := match r.1 with
  | .putfield _ => hp_c r.2.2.1 r.2.2.2.1
  | .aastore => true
  | .new _ => [0, 2, 4, 6, 7, 8].any (Nat.beq r.2.2.1)
  | .newarray _ => true
  | .anewarray _ => true
  | .multianewarray _ _ => true
  | _ => false
def eqK (σ σ' : mS) : Prop := (∀ c i, 13 ≤ c → σ'.2.1 c i = σ.2.1 c i) ∧ ∀ c j k, hp_c c k = true → m_get σ' c j k = m_get σ c j k
theorem eqK.rf' {σ : mS} : eqK σ σ := ⟨fun _ _ _ => rfl, fun _ _ _ _ => rfl⟩
theorem eqK.tr {σ σ' σ'' : mS} (h : eqK σ σ') (g : eqK σ' σ'') : eqK σ σ'' := ⟨fun c i hc => (g.1 c i hc).trans (h.1 c i hc), fun c j k hk => (g.2 c j k hk).trans (h.2 c j k hk)⟩
theorem eqK_set {c j k : Nat} {σ : mS} {x : mV} (h : hp_c c k = false) : eqK σ (m_set σ c j k x) := ⟨fun c' i _ => by rw [m_set_2], fun c' j' k' hk => m_get_ne _ _ (fun z => by
  rw [z.1, z.2.2, h] at hk
  cases hk)⟩
def hp_p (r : mRow) (σ : mS) (o : ev_O) : Prop := match o with
  | .inl s' => eqK σ s'.2.2.2.1
  | .inr (.inl e) => eqK σ e.2
  | .inr (.inr c) => tr_inv r = some c.1
section TR4
variable {xs : ab_X} {mt : List mMt} {rt : Option FieldType} {R : Room} {nL : Nat} {rows : List (Nat × mRow)} {mc ms : Nat} {pc : Nat} {L : List (Option mV)} {st : List mV} {σ : mS} {k n : Nat} {r : mRow} {o : ev_O}
theorem tr_cells (hr : m_at rows pc = some r) (hw : tr_k r = false) (h : ev_nf xs mt rt R nL rows mc ms pc L st σ k n = some o) : hp_p r σ o := by
  cases hq : tr_w r with
  | false =>
    have g := tr_same hr hq h
    rcases o with s' | e | c
    · have g : s'.2.2.2.1 = σ := g
      show eqK σ s'.2.2.2.1
      rw [g]
      exact eqK.rf'
    · have g : e.2 = σ := g
      show eqK σ e.2
      rw [g]
      exact eqK.rf'
    · exact g
  | true =>
    have nx : ∀ {pc' k' n' : Nat} {o1 : Option ev_H}, (∀ z, o1 = some z → eqK σ z.2) → ev_nx pc' L k' n' o1 = some o → hp_p r σ o := by
      intro pc' k' n' o1 H h
      cases o1 with
      | none => cases h
      | some q => cases h; exact H q rfl
    unfold ev_nf at h
    rw [hr] at h
    dsimp only at h
    obtain ⟨ig, ln, ra, rb, rz, rp⟩ := r
    cases ig
    case putfield i =>
      refine nx (fun z hz => ?_) h
      unfold ev_put at hz
      split at hz
      · obtain ⟨-, h2⟩ := ev_if_some.mp hz
        cases h2
        exact eqK_set hw
      · cases hz
    case iastore =>
      refine nx (fun z hz => ?_) h
      unfold ev_iast at hz
      split at hz
      · obtain ⟨g, h2⟩ := ev_if_some.mp hz
        cases h2
        exact eqK_set rfl
      · cases hz
    case lastore =>
      refine nx (fun z hz => ?_) h
      unfold ev_last at hz
      split at hz
      · obtain ⟨g, h2⟩ := ev_if_some.mp hz
        cases h2
        exact eqK_set rfl
      · cases hz
    case bastore =>
      refine nx (fun z hz => ?_) h
      unfold ev_zast at hz
      split at hz
      · obtain ⟨g, h2⟩ := ev_if_some.mp hz
        cases h2
        exact eqK_set rfl
      · cases hz
    case aastore => cases hw
    case newarray t => cases hw
    case anewarray t => cases hw
    case multianewarray i d => cases hw
    case new i =>
      dsimp only at h
      by_cases hlt : ra < 13
      · rw [if_pos hlt] at h
        obtain ⟨-, h2⟩ := ev_if_some.mp h
        cases h2
        have hw : [0, 2, 4, 6, 7, 8].any (Nat.beq ra) = false := hw
        refine ⟨fun c i hc => m_nu_len σ (fun z => by omega), fun c j k hk => m_nu_old σ (fun z => ?_)⟩
        obtain ⟨z1s, -⟩ := z
        subst z1s
        have g : ∀ c, c < 13 → [0, 2, 4, 6, 7, 8].any (Nat.beq c) = false → ∀ k, hp_c c k = false := by
          intro c h13 hc k
          match c, h13 with
          | 0, _ => cases hc
          | 1, _ => rfl
          | 2, _ => cases hc
          | 3, _ => rfl
          | 4, _ => cases hc
          | 5, _ => rfl
          | 6, _ => cases hc
          | 7, _ => cases hc
          | 8, _ => cases hc
          | 9, _ => rfl
          | 10, _ => rfl
          | 11, _ => rfl
          | 12, _ => rfl
        rw [g c hlt hw k] at hk
        cases hk
      · rw [if_neg hlt] at h
        obtain ⟨-, h2⟩ := ev_if_some.mp h
        cases h2
        exact eqK.rf'
    all_goals cases hq
end TR4
def tr_kB (S : List Nat) (z : mAl) : Bool := z.1.2.2.2.2.2.isEmpty && z.2.1.all (fun q => !(tr_k q.2) && match tr_inv q.2 with
  | none => true
  | some i => S.any (Nat.beq i))
def tr_kS (S : List Nat) : Bool := S.all (fun j => match m_alF[j]? with
  | some z => tr_kB S z
  | none => false)
def hp_pp (S : List Nat) (σ : mS) (o : ev_O) : Prop := match o with
  | .inl s' => eqK σ s'.2.2.2.1
  | .inr (.inl e) => eqK σ e.2
  | .inr (.inr c) => c.1 ∈ S
theorem tr_cells_ok {Gd : ev_G} {S : List Nat} (hS : tr_kS S = true) : ∀ (f j : Nat) (avs : List mV) (σ : mS) (x : mX) (σ' : mS), j ∈ S → ev_c Gd f j avs σ = some (x, σ') → eqK σ σ'
  | 0, _, _, _, _, _, _, h => by cases h
  | f + 1, j, avs, σ, x, σ', hj, h => by
    obtain ⟨z, h1, h2, h3⟩ := ev_c_succ.mp h
    have hz : tr_kB S z = true := by
      have g := List.all_eq_true.mp hS j hj
      rw [h1] at g
      exact g
    unfold tr_kB at hz
    rw [Bool.and_eq_true] at hz
    have hh := List.isEmpty_iff.mp hz.1
    have row : ∀ {pc : Nat} {r : mRow}, m_at z.2.1 pc = some r → tr_k r = false ∧ ∀ i, tr_inv r = some i → i ∈ S := by
      intro pc r hr
      have g := List.all_eq_true.mp hz.2 _ (m_at_mem hr)
      rw [Bool.and_eq_true, Bool.not_eq_true'] at g
      refine ⟨g.1, fun i hi => ?_⟩
      have g2 := g.2
      dsimp only at g2
      rw [hi] at g2
      obtain ⟨y, y1, y2⟩ := List.any_eq_true.mp g2
      rw [Nat.eq_of_beq_eq_true y2]
      exact y1
    have same : ∀ (s : ev_T) (o : ev_O), ev_st none z s = some o → hp_pp S s.2.2.2.1 o := by
      intro s o ho
      unfold ev_st at ho
      cases hr : m_at z.2.1 s.1 with
      | none =>
        unfold ev_nf at ho
        rw [hr] at ho
        cases ho
      | some r =>
        have g := tr_cells hr (row hr).1 ho
        rcases o with s' | e | c
        · exact g
        · exact g
        · exact (row hr).2 _ g
    refine ev_inv (I := fun s => eqK σ s.2.2.2.1) (Po := fun _ τ => eqK σ τ) (fun s s' hI ho => hI.tr (same s _ ho)) (fun s e hI ho => hI.tr (same s _ ho)) (fun s c y τ hI ho hc => ?_) f _ x σ' eqK.rf' h3
    have e := tr_cells_ok hS f c.1 c.2.2.1 s.2.2.2.1 y τ (same s _ ho) hc
    cases y with
    | inl v => exact hI.tr e
    | inr b =>
      dsimp only
      rw [hh]
      exact hI.tr e
/-- the form of a hall stays where its cells stay -/
theorem hy_K {B : Nat → Nat} {σ τ : mS} (h : hy B σ) (g : eqK σ τ) : hy B τ := by
  obtain ⟨l, e⟩ := g
  obtain ⟨⟨a1, a2⟩, a3, a4, ⟨a5, a6⟩, a7, ⟨b0, b1, b2, b3, b4⟩, b5, b6, b7, b8, b9, l1, l2, l3, l4, l5, l6⟩ := h
  refine ⟨⟨(e 0 _ _ rfl).trans a1, fun f hf => (e 0 _ _ ?_).trans (a2 f hf)⟩, (l 17 _ (by decide)).trans a3, fun k hk => ⟨(e 17 _ _ rfl).trans (a4 k hk).1, (e 7 _ _ rfl).trans (a4 k hk).2⟩, ⟨(e 4 _ _ rfl).trans a5, (e 4 _ _ rfl).trans a6⟩, fun f hf => (e 2 _ _ ?_).trans (a7 f hf), ⟨(e 2 _ _ rfl).trans b0, (e 2 _ _ rfl).trans b1, (e 2 _ _ rfl).trans b2, (e 2 _ _ rfl).trans b3, (e 2 _ _ rfl).trans b4⟩, fun m hm => ⟨(e 6 _ _ rfl).trans (b5 m hm).1, (e 6 _ _ rfl).trans (b5 m hm).2.1, fun f hf => (e 6 _ _ ?_).trans ((b5 m hm).2.2 f hf)⟩, fun k hk => (e 16 _ _ rfl).trans (b6 k hk), fun k hk => ⟨(e 18 _ _ rfl).trans (b7 k hk).1, (e 8 _ _ rfl).trans (b7 k hk).2.1, fun f hf => (e 8 _ _ ?_).trans ((b7 k hk).2.2 f hf)⟩, fun k hk => (e 20 _ _ rfl).trans (b8 k hk), fun k hk => (e 21 _ _ rfl).trans (b9 k hk), (l 16 _ (by decide)).trans l1, (l 18 _ (by decide)).trans l2, (l 20 _ (by decide)).trans l3, (l 21 _ (by decide)).trans l4, fun k hk => (l 13 _ (by decide)).trans (l5 k hk), fun m hm => (l 14 _ (by decide)).trans (l6 m hm)⟩
  · show (Nat.beq f 0 || Nat.ble 3 f) = true
    rw [Nat.ble_eq_true_of_le hf, Bool.or_true]
  · show (Nat.blt f 5 || Nat.ble 11 f) = true
    rw [Nat.ble_eq_true_of_le hf, Bool.or_true]
  · show (Nat.blt f 2 || Nat.ble 11 f) = true
    rw [Nat.ble_eq_true_of_le hf, Bool.or_true]
  · show (Nat.beq f 0 || Nat.ble 9 f) = true
    rw [Nat.ble_eq_true_of_le hf, Bool.or_true]
/-- the methods that leave every hall's form -/
def Sk : List Nat := [1, 2, 3, 4, 5, 6, 7, 8, 9, 10, 11, 12, 13, 14, 15, 16, 17, 18, 19, 21, 22, 23, 24, 25, 26, 27, 28, 29, 30, 31, 32, 33, 34, 35, 36, 37, 38, 39, 40, 41, 42, 43, 44, 45, 46, 47, 48, 49, 51, 52, 56, 57, 59, 60, 61, 62, 63, 64, 65, 66, 67, 68, 69, 70, 71, 72, 73, 74, 75, 76, 78, 79, 80, 81, 82, 83, 84, 85, 86, 87, 89, 90, 91, 92, 93, 94, 95, 96, 98, 99, 100, 101, 102, 103, 104, 105, 106, 107, 108, 109, 111, 112, 113, 114, 115, 116, 117, 118, 120, 121, 122, 131, 132, 133, 136, 140, 141, 142, 144, 145, 147, 148, 149, 154, 155, 156, 159, 160, 161, 162, 163, 164, 165, 166, 167, 168, 169, 170]
theorem Sk_ok : tr_kS Sk = true := by decide +kernel
theorem hy_run {Gd : ev_G} {B : Nat → Nat} {j : Nat} {avs : List mV} {σ τ : mS} {x : mX} (hj : j ∈ Sk) (h : ev_run Gd j avs σ x τ) (hy0 : hy B σ) : hy B τ := by
  obtain ⟨f, h⟩ := h
  exact hy_K hy0 (tr_cells_ok Sk_ok f j _ _ _ _ hj h)
