/-! which cells a run may write, by the rows of its methods -/
section FW
variable (hp : Nat → Nat → Bool)
def fw_k (r : mRow) : Bool := match r.1 with
  | .putfield _ => hp r.2.2.1 r.2.2.2.1
  | .iastore => hp 13 0
  | .lastore => hp 14 0
  | .bastore => hp 15 0
  | .aastore => true
  | .new _ => Nat.blt r.2.2.1 13 && (List.range 16).any (hp r.2.2.1)
  | .newarray _ => true
  | .anewarray _ => true
  | .multianewarray _ _ => true
  | _ => false
def fwh (c k : Nat) : Bool := hp c (if c < 13 then (if k < 16 then k else 0) else 0)
def fw_e (σ σ' : mS) : Prop := (∀ c i, 13 ≤ c → σ'.2.1 c i = σ.2.1 c i) ∧ ∀ c i k, fwh hp c k = true → m_i σ' c i k = m_i σ c i k ∧ m_l σ' c i k = m_l σ c i k ∧ m_r σ' c i k = m_r σ c i k
end FW
section FW2
variable {hp : Nat → Nat → Bool}
theorem fw_e.rf' {σ : mS} : fw_e hp σ σ := ⟨fun _ _ _ => rfl, fun _ _ _ _ => ⟨rfl, rfl, rfl⟩⟩
theorem fw_e.tr {σ σ' σ'' : mS} (h : fw_e hp σ σ') (g : fw_e hp σ' σ'') : fw_e hp σ σ'' := ⟨fun c i hc => (g.1 c i hc).trans (h.1 c i hc), fun c j k hk => by
  obtain ⟨a, b, d⟩ := h.2 c j k hk
  obtain ⟨a', b', d'⟩ := g.2 c j k hk
  exact ⟨a'.trans a, b'.trans b, d'.trans d⟩⟩
theorem fw_e.get {σ σ' : mS} (h : fw_e hp σ σ') {c i k : Nat} (hk : fwh hp c k = true) : m_get σ' c i k = m_get σ c i k := by
  obtain ⟨a, b, d⟩ := h.2 c i k hk
  unfold m_get
  rw [a, b, d]
theorem fw_set {c j k : Nat} {σ : mS} {x : mV} (h : fwh hp c k = false) : fw_e hp σ (m_set σ c j k x) := ⟨fun c' i _ => by rw [m_set_2], fun c' j' k' hk => by
  have hne : ¬ (c' = c ∧ j' = j ∧ k' = k) := fun z => by
    rw [z.1, z.2.2, h] at hk
    cases hk
  rcases x with v | v | v
  · exact ⟨by rw [mi_si, if_neg hne], rfl, rfl⟩
  · exact ⟨rfl, by rw [ml_sl, if_neg hne], rfl⟩
  · exact ⟨rfl, rfl, by rw [mr_sr, if_neg hne]⟩⟩
def fw_p (hp : Nat → Nat → Bool) (r : mRow) (σ : mS) (o : ev_O) : Prop := match o with
  | .inl s' => fw_e hp σ s'.2.2.2.1
  | .inr (.inl e) => fw_e hp σ e.2
  | .inr (.inr c) => tr_inv r = some c.1
theorem fwh_any {c k : Nat} (h13 : c < 13) (h : (List.range 16).any (hp c) = false) : fwh hp c k = false := by
  unfold fwh
  rw [if_pos h13]
  cases g : hp c (if k < 16 then k else 0) with
  | false => rfl
  | true =>
    have : (List.range 16).any (hp c) = true := List.any_eq_true.mpr ⟨_, List.mem_range.mpr (by split <;> omega), g⟩
    rw [h] at this
    cases this
theorem m_nu_i {σ : mS} {c n c' j k : Nat} (h : c' ≠ c) : m_i (m_nu σ c n) c' j k = m_i σ c' j k ∧ m_l (m_nu σ c n) c' j k = m_l σ c' j k ∧ m_r (m_nu σ c n) c' j k = m_r σ c' j k := by
  refine ⟨?_, ?_, ?_⟩
  · show m_zi σ.2.2.1 c (σ.1 c) 0 c' j k = _
    unfold m_zi
    rw [if_neg h]
    rfl
  · show m_zi σ.2.2.2.1 c (σ.1 c) 0 c' j k = _
    unfold m_zi
    rw [if_neg h]
    rfl
  · show m_zi σ.2.2.2.2 c (σ.1 c) none c' j k = _
    unfold m_zi
    rw [if_neg h]
    rfl
variable {xs : ab_X} {mt : List mMt} {rt : Option FieldType} {R : Room} {nL : Nat} {rows : List (Nat × mRow)} {mc ms : Nat} {pc : Nat} {L : List (Option mV)} {st : List mV} {σ : mS} {k n : Nat} {r : mRow} {o : ev_O}
theorem fw_cells (hq2 : ∀ c k, 13 ≤ c → fwh hp c k = hp c 0) (hf : m_at rows pc = some r → ∀ i, r.1 = .putfield i → r.2.2.1 < 13 ∧ r.2.2.2.1 < 16) (hr : m_at rows pc = some r) (hw : fw_k hp r = false) (h : ev_nf xs mt rt R nL rows mc ms pc L st σ k n = some o) : fw_p hp r σ o := by
  cases hq : tr_w r with
  | false =>
    have g := tr_same hr hq h
    rcases o with s' | e | c
    · have g : s'.2.2.2.1 = σ := g
      show fw_e hp σ s'.2.2.2.1
      rw [g]
      exact fw_e.rf'
    · have g : e.2 = σ := g
      show fw_e hp σ e.2
      rw [g]
      exact fw_e.rf'
    · exact g
  | true =>
    have nx : ∀ {pc' k' n' : Nat} {o1 : Option ev_H}, (∀ z, o1 = some z → fw_e hp σ z.2) → ev_nx pc' L k' n' o1 = some o → fw_p hp r σ o := by
      intro pc' k' n' o1 H h
      cases o1 with
      | none => cases h
      | some q => cases h; exact H q rfl
    replace hf := hf hr
    unfold ev_nf at h
    rw [hr] at h
    dsimp only at h
    obtain ⟨ig, ln, ra, rb, rz, rp⟩ := r
    cases ig
    case putfield i =>
      obtain ⟨f1, f2⟩ := hf i rfl
      have hw : hp ra rb = false := hw
      refine nx (fun z hz => ?_) h
      unfold ev_put at hz
      split at hz
      · obtain ⟨-, h2⟩ := ev_if_some.mp hz
        cases h2
        refine fw_set ?_
        unfold fwh
        rw [if_pos f1, if_pos f2]
        exact hw
      · cases hz
    case iastore =>
      refine nx (fun z hz => ?_) h
      unfold ev_iast at hz
      split at hz
      · obtain ⟨g, h2⟩ := ev_if_some.mp hz
        cases h2
        exact fw_set ((hq2 13 _ (by decide)).trans hw)
      · cases hz
    case lastore =>
      refine nx (fun z hz => ?_) h
      unfold ev_last at hz
      split at hz
      · obtain ⟨g, h2⟩ := ev_if_some.mp hz
        cases h2
        exact fw_set ((hq2 14 _ (by decide)).trans hw)
      · cases hz
    case bastore =>
      refine nx (fun z hz => ?_) h
      unfold ev_zast at hz
      split at hz
      · obtain ⟨g, h2⟩ := ev_if_some.mp hz
        cases h2
        exact fw_set ((hq2 15 _ (by decide)).trans hw)
      · cases hz
    case aastore => cases hw
    case newarray t => cases hw
    case anewarray t => cases hw
    case multianewarray i d => cases hw
    case new i =>
      dsimp only at h
      by_cases hlt : ra < 13
      · rw [if_pos hlt] at h
        obtain ⟨-, h2⟩ := ev_if_some.mp h
        cases h2
        have hw : (Nat.blt ra 13 && (List.range 16).any (hp ra)) = false := hw
        have h1 : Nat.blt ra 13 = true := by rw [Nat.blt_eq]; exact hlt
        rw [h1, Bool.true_and] at hw
        refine ⟨fun c i hc => m_nu_len σ (fun z => by omega), fun c j k hk => ?_⟩
        by_cases e : c = ra
        · rw [e, fwh_any hlt hw] at hk
          cases hk
        · exact m_nu_i e
      · rw [if_neg hlt] at h
        obtain ⟨-, h2⟩ := ev_if_some.mp h
        cases h2
        exact fw_e.rf'
    all_goals cases hq
end FW2
def fw_B (hp : Nat → Nat → Bool) (S : List Nat) (z : mAl) : Bool := z.1.2.2.2.2.2.isEmpty && z.2.1.all (fun q => !(fw_k hp q.2) && ((match q.2.1 with
  | .putfield _ => Nat.blt q.2.2.2.1 13 && Nat.blt q.2.2.2.2.1 16
  | _ => true) && match tr_inv q.2 with
  | none => true
  | some i => S.any (Nat.beq i)))
def fw_S (hp : Nat → Nat → Bool) (S : List Nat) : Bool := S.all (fun j => match m_alF[j]? with
  | some z => fw_B hp S z
  | none => false)
def fw_pp (hp : Nat → Nat → Bool) (S : List Nat) (σ : mS) (o : ev_O) : Prop := match o with
  | .inl s' => fw_e hp σ s'.2.2.2.1
  | .inr (.inl e) => fw_e hp σ e.2
  | .inr (.inr c) => c.1 ∈ S
theorem fw_ok {hp : Nat → Nat → Bool} {Gd : ev_G} {S : List Nat} (hS : fw_S hp S = true) : ∀ (f j : Nat) (avs : List mV) (σ : mS) (x : mX) (σ' : mS), j ∈ S → ev_c Gd f j avs σ = some (x, σ') → fw_e hp σ σ'
  | 0, _, _, _, _, _, _, h => by cases h
  | f + 1, j, avs, σ, x, σ', hj, h => by
    obtain ⟨z, h1, h2, h3⟩ := ev_c_succ.mp h
    have hz : fw_B hp S z = true := by
      have g := List.all_eq_true.mp hS j hj
      rw [h1] at g
      exact g
    unfold fw_B at hz
    rw [Bool.and_eq_true] at hz
    have hh := List.isEmpty_iff.mp hz.1
    have row : ∀ {pc : Nat} {r : mRow}, m_at z.2.1 pc = some r → fw_k hp r = false ∧ (∀ i, r.1 = .putfield i → r.2.2.1 < 13 ∧ r.2.2.2.1 < 16) ∧ ∀ i, tr_inv r = some i → i ∈ S := by
      intro pc r hr
      have g := List.all_eq_true.mp hz.2 _ (m_at_mem hr)
      rw [Bool.and_eq_true, Bool.and_eq_true, Bool.not_eq_true'] at g
      refine ⟨g.1, fun i hi => ?_, fun i hi => ?_⟩
      · have g2 := g.2.1
        dsimp only at g2
        rw [hi] at g2
        dsimp only at g2
        rw [Bool.and_eq_true, Nat.blt_eq, Nat.blt_eq] at g2
        exact g2
      · have g2 := g.2.2
        dsimp only at g2
        rw [hi] at g2
        obtain ⟨y, y1, y2⟩ := List.any_eq_true.mp g2
        rw [Nat.eq_of_beq_eq_true y2]
        exact y1
    have q2 : ∀ c k, 13 ≤ c → fwh hp c k = hp c 0 := fun c k hc => by
      unfold fwh
      rw [if_neg (by omega)]
    have same : ∀ (s : ev_T) (o : ev_O), ev_st none z s = some o → fw_pp hp S s.2.2.2.1 o := by
      intro s o ho
      unfold ev_st at ho
      cases hr : m_at z.2.1 s.1 with
      | none =>
        unfold ev_nf at ho
        rw [hr] at ho
        cases ho
      | some r =>
        have g := fw_cells q2 (fun _ => (row hr).2.1) hr (row hr).1 ho
        rcases o with s' | e | c
        · exact g
        · exact g
        · exact (row hr).2.2 _ g
    refine ev_inv (I := fun s => fw_e hp σ s.2.2.2.1) (Po := fun _ τ => fw_e hp σ τ) (fun s s' hI ho => hI.tr (same s _ ho)) (fun s e hI ho => hI.tr (same s _ ho)) (fun s c y τ hI ho hc => ?_) f _ x σ' fw_e.rf' h3
    have e := fw_ok hS f c.1 c.2.2.1 s.2.2.2.1 y τ (same s _ ho) hc
    cases y with
    | inl v => exact hI.tr e
    | inr b =>
      dsimp only
      rw [hh]
      exact hI.tr e
theorem fw_run {hp : Nat → Nat → Bool} {Gd : ev_G} {S : List Nat} (hS : fw_S hp S = true) {j : Nat} {avs : List mV} {σ σ' : mS} {x : mX} (hj : S.any (Nat.beq j) = true) (h : ev_run Gd j avs σ x σ') : fw_e hp σ σ' := by
  obtain ⟨f, h⟩ := h
  obtain ⟨a, a1, a2⟩ := List.any_eq_true.mp hj
  have e := Nat.eq_of_beq_eq_true a2
  subst e
  exact fw_ok hS f j avs σ x σ' a1 h
/-- all cells but those of a list -/
def wl (L : List (Nat × Nat)) (c k : Nat) : Bool := !(L.any (fun q => Nat.beq q.1 c && Nat.beq q.2 k))
theorem wl_mono {L L' : List (Nat × Nat)} {σ σ' : mS} (F : fw_e (wl L) σ σ') (h : L.all (fun q => L'.any (fun p => Nat.beq p.1 q.1 && Nat.beq p.2 q.2)) = true) : fw_e (wl L') σ σ' := by
  have key : ∀ c k, wl L' c k = true → wl L c k = true := by
    intro c k hk
    unfold wl at hk ⊢
    rw [Bool.not_eq_true'] at hk ⊢
    cases g : L.any (fun q => Nat.beq q.1 c && Nat.beq q.2 k) with
    | false => rfl
    | true =>
      exfalso
      obtain ⟨q, q1, q2⟩ := List.any_eq_true.mp g
      have a := List.all_eq_true.mp h q q1
      obtain ⟨p, p1, p2⟩ := List.any_eq_true.mp a
      rw [Bool.and_eq_true] at q2 p2
      have e1 := Nat.eq_of_beq_eq_true q2.1
      have e2 := Nat.eq_of_beq_eq_true q2.2
      have e3 := Nat.eq_of_beq_eq_true p2.1
      have e4 := Nat.eq_of_beq_eq_true p2.2
      have : L'.any (fun q => Nat.beq q.1 c && Nat.beq q.2 k) = true := List.any_eq_true.mpr ⟨p, p1, by rw [Bool.and_eq_true, ← e1, ← e2, e3, e4]; exact ⟨Nat.beq_refl _, Nat.beq_refl _⟩⟩
      rw [hk] at this
      cases this
  exact ⟨F.1, fun c i k hk => F.2 c i k (key _ _ hk)⟩
theorem fw_setl {L : List (Nat × Nat)} {c j k : Nat} {σ : mS} {x : mV} (h : fwh (wl L) c k = false) : fw_e (wl L) σ (m_set σ c j k x) := fw_set h
