/-! a class that no row of some methods writes -/
def tr_c (c0 : Nat) (r : mRow) : Bool := match r.1 with
  | .putfield _ => Nat.beq r.2.2.1 c0
  | .new _ => Nat.beq r.2.2.1 c0
  | .newarray _ => Nat.beq r.2.2.1 c0
  | .anewarray _ => Nat.beq r.2.2.1 c0
  | _ => false
/-- the cells of a class are the same, and how many there are -/
def eqH (c0 : Nat) (σ σ' : mS) : Prop := σ'.1 c0 = σ.1 c0 ∧ ∀ j k, m_get σ' c0 j k = m_get σ c0 j k
theorem eqH.rf' {c0 : Nat} {σ : mS} : eqH c0 σ σ := ⟨rfl, fun _ _ => rfl⟩
theorem eqH.tr {c0 : Nat} {σ σ' σ'' : mS} (h : eqH c0 σ σ') (g : eqH c0 σ' σ'') : eqH c0 σ σ'' := ⟨g.1.trans h.1, fun j k => (g.2 j k).trans (h.2 j k)⟩
theorem eqH_set {c0 c j k : Nat} {σ : mS} {x : mV} (h : c0 ≠ c) : eqH c0 σ (m_set σ c j k x) := ⟨by rw [m_set_1], fun j' k' => m_get_ne _ _ (fun z => h z.1)⟩
theorem eqH_nu {c0 c n : Nat} {σ : mS} (h : c0 ≠ c) : eqH c0 σ (m_nu σ c n) := ⟨by
  show (if c0 = c then σ.1 c0 + 1 else σ.1 c0) = _
  rw [if_neg h], fun j k => m_nu_old σ (fun z => h z.1)⟩
theorem beq_ne {a b : Nat} (h : Nat.beq a b = false) : b ≠ a := fun e => by
  rw [e, Nat.beq_refl] at h
  cases h
def tr_p (c0 : Nat) (r : mRow) (σ : mS) (o : ev_O) : Prop := match o with
  | .inl s' => eqH c0 σ s'.2.2.2.1
  | .inr (.inl e) => eqH c0 σ e.2
  | .inr (.inr c) => tr_inv r = some c.1
section TR3
variable {xs : ab_X} {mt : List mMt} {rt : Option FieldType} {R : Room} {nL : Nat} {rows : List (Nat × mRow)} {mc ms : Nat} {pc : Nat} {L : List (Option mV)} {st : List mV} {σ : mS} {k n c0 : Nat} {r : mRow} {o : ev_O}
theorem tr_cls (hr : m_at rows pc = some r) (h13 : c0 < 13) (hw : tr_c c0 r = false) (h : ev_nf xs mt rt R nL rows mc ms pc L st σ k n = some o) : tr_p c0 r σ o := by
  cases hq : tr_w r with
  | false =>
    have g := tr_same hr hq h
    rcases o with s' | e | c
    · have g : s'.2.2.2.1 = σ := g
      show eqH c0 σ s'.2.2.2.1
      rw [g]
      exact eqH.rf'
    · have g : e.2 = σ := g
      show eqH c0 σ e.2
      rw [g]
      exact eqH.rf'
    · exact g
  | true =>
    have nx : ∀ {pc' k' n' : Nat} {o1 : Option ev_H}, (∀ z, o1 = some z → eqH c0 σ z.2) → ev_nx pc' L k' n' o1 = some o → tr_p c0 r σ o := by
      intro pc' k' n' o1 H h
      cases o1 with
      | none => cases h
      | some q => cases h; exact H q rfl
    have nz : ∀ {pc' k' : Nat} {o1 : Option (List mV × mS × Nat)}, (∀ z, o1 = some z → eqH c0 σ z.2.1) → ev_nz pc' L k' o1 = some o → tr_p c0 r σ o := by
      intro pc' k' o1 H h
      cases o1 with
      | none => cases h
      | some q => cases h; exact H q rfl
    unfold ev_nf at h
    rw [hr] at h
    dsimp only at h
    obtain ⟨ig, ln, ra, rb, rz, rp⟩ := r
    cases ig
    case putfield i =>
      refine nx (fun z hz => ?_) h
      unfold ev_put at hz
      split at hz
      · obtain ⟨-, h2⟩ := ev_if_some.mp hz
        cases h2
        exact eqH_set (beq_ne hw)
      · cases hz
    case iastore =>
      refine nx (fun z hz => ?_) h
      unfold ev_iast at hz
      split at hz
      · obtain ⟨g, h2⟩ := ev_if_some.mp hz
        cases h2
        dsimp only
        refine eqH_set ?_
        intro e
        omega
      · cases hz
    case lastore =>
      refine nx (fun z hz => ?_) h
      unfold ev_last at hz
      split at hz
      · obtain ⟨g, h2⟩ := ev_if_some.mp hz
        cases h2
        dsimp only
        refine eqH_set ?_
        intro e
        omega
      · cases hz
    case bastore =>
      refine nx (fun z hz => ?_) h
      unfold ev_zast at hz
      split at hz
      · obtain ⟨g, h2⟩ := ev_if_some.mp hz
        cases h2
        dsimp only
        refine eqH_set ?_
        intro e
        omega
      · cases hz
    case aastore =>
      refine nx (fun z hz => ?_) h
      unfold ev_astq at hz
      split at hz
      · obtain ⟨g, h2⟩ := ev_if_some.mp hz
        cases h2
        dsimp only
        refine eqH_set ?_
        intro e
        have := g.2.1
        omega
      · cases hz
    case newarray t =>
      refine nz (fun z hz => ?_) h
      unfold ev_newa at hz
      split at hz
      · obtain ⟨g, h2⟩ := ev_if_some.mp hz
        cases h2
        exact eqH_nu (beq_ne hw)
      · cases hz
    case anewarray t =>
      refine nz (fun z hz => ?_) h
      unfold ev_newa at hz
      split at hz
      · obtain ⟨g, h2⟩ := ev_if_some.mp hz
        cases h2
        exact eqH_nu (beq_ne hw)
      · cases hz
    case multianewarray i d =>
      refine nx (fun z hz => ?_) h
      unfold ev_mna at hz
      split at hz
      · obtain ⟨g, h2⟩ := ev_if_some.mp hz
        cases h2
        refine ⟨?_, fun j' k' => m_mn_old σ (fun z => by omega) (fun z => by omega)⟩
        show (if c0 = 13 then σ.1 13 + 4 else if c0 = 21 then σ.1 21 + 1 else σ.1 c0) = σ.1 c0
        rw [if_neg (by omega), if_neg (by omega)]
      · cases hz
    case new i =>
      dsimp only at h
      by_cases hlt : ra < 13
      · rw [if_pos hlt] at h
        obtain ⟨-, h2⟩ := ev_if_some.mp h
        cases h2
        exact eqH_nu (beq_ne hw)
      · rw [if_neg hlt] at h
        obtain ⟨-, h2⟩ := ev_if_some.mp h
        cases h2
        exact eqH.rf'
    all_goals cases hq
end TR3
def tr_cB (S : List Nat) (c0 : Nat) (z : mAl) : Bool := z.1.2.2.2.2.2.isEmpty && z.2.1.all (fun q => !(tr_c c0 q.2) && match tr_inv q.2 with
  | none => true
  | some i => S.any (Nat.beq i))
def tr_cS (S : List Nat) (c0 : Nat) : Bool := S.all (fun j => match m_alF[j]? with
  | some z => tr_cB S c0 z
  | none => false)
def tr_pp (S : List Nat) (c0 : Nat) (σ : mS) (o : ev_O) : Prop := match o with
  | .inl s' => eqH c0 σ s'.2.2.2.1
  | .inr (.inl e) => eqH c0 σ e.2
  | .inr (.inr c) => c.1 ∈ S
/-- methods none of whose rows writes a class leave it -/
theorem tr_cls_ok {Gd : ev_G} {S : List Nat} {c0 : Nat} (h13 : c0 < 13) (hS : tr_cS S c0 = true) : ∀ (f j : Nat) (avs : List mV) (σ : mS) (x : mX) (σ' : mS), j ∈ S → ev_c Gd f j avs σ = some (x, σ') → eqH c0 σ σ'
  | 0, _, _, _, _, _, _, h => by cases h
  | f + 1, j, avs, σ, x, σ', hj, h => by
    obtain ⟨z, h1, h2, h3⟩ := ev_c_succ.mp h
    have hz : tr_cB S c0 z = true := by
      have g := List.all_eq_true.mp hS j hj
      rw [h1] at g
      exact g
    unfold tr_cB at hz
    rw [Bool.and_eq_true] at hz
    have hh := List.isEmpty_iff.mp hz.1
    have row : ∀ {pc : Nat} {r : mRow}, m_at z.2.1 pc = some r → tr_c c0 r = false ∧ ∀ i, tr_inv r = some i → i ∈ S := by
      intro pc r hr
      have g := List.all_eq_true.mp hz.2 _ (m_at_mem hr)
      rw [Bool.and_eq_true, Bool.not_eq_true'] at g
      refine ⟨g.1, fun i hi => ?_⟩
      have g2 := g.2
      dsimp only at g2
      rw [hi] at g2
      obtain ⟨y, y1, y2⟩ := List.any_eq_true.mp g2
      rw [Nat.eq_of_beq_eq_true y2]
      exact y1
    have same : ∀ (s : ev_T) (o : ev_O), ev_st none z s = some o → tr_pp S c0 s.2.2.2.1 o := by
      intro s o ho
      unfold ev_st at ho
      cases hr : m_at z.2.1 s.1 with
      | none =>
        unfold ev_nf at ho
        rw [hr] at ho
        cases ho
      | some r =>
        have g := tr_cls hr h13 (row hr).1 ho
        rcases o with s' | e | c
        · exact g
        · exact g
        · exact (row hr).2 _ g
    refine ev_inv (I := fun s => eqH c0 σ s.2.2.2.1) (Po := fun _ τ => eqH c0 σ τ) (fun s s' hI ho => hI.tr (same s _ ho)) (fun s e hI ho => hI.tr (same s _ ho)) (fun s c y τ hI ho hc => ?_) f _ x σ' eqH.rf' h3
    have e := tr_cls_ok h13 hS f c.1 c.2.2.1 s.2.2.2.1 y τ (same s _ ho) hc
    cases y with
    | inl v => exact hI.tr e
    | inr b =>
      dsimp only
      rw [hh]
      exact hI.tr e
def S58 : List Nat := [58, 0, 20, 88, 97, 110, 120]
theorem S58_ok : [1, 3, 5, 9, 11, 12].all (tr_cS S58) = true := by decide +kernel
/-- a new hall leaves the calls, the face, the feed and the reference -/
theorem hl_old {σ τ : mS} {avs : List mV} {x : mX} {c : Nat} (hc : c ∈ [1, 3, 5, 9, 11, 12]) (h : ev_run sm_all 58 avs σ x τ) : eqH c σ τ := by
  obtain ⟨f, h⟩ := h
  refine tr_cls_ok ?_ (List.all_eq_true.mp S58_ok c hc) f 58 _ _ _ _ (List.mem_cons_self ..) h
  simp only [List.mem_cons, List.mem_nil_iff, or_false] at hc
  omega
