/-! the law's methods: what they need -/
def HL (σ : mS) : Prop := HS σ ∧ gH σ
def gB (x : mV) : Bool := match x with
  | .inr (.inr (some q)) => !((Nat.beq q.1 13 && (Nat.ble 14 q.2 && Nat.blt q.2 18)) || (Nat.beq q.1 14 && Nat.beq q.2 6))
  | _ => true
theorem gB_ok {x : mV} (h : gB x = true) : gV gX x := by
  rcases x with a | a | _ | q
  · trivial
  · trivial
  · trivial
  · have h : (!((Nat.beq q.1 13 && (Nat.ble 14 q.2 && Nat.blt q.2 18)) || (Nat.beq q.1 14 && Nat.beq q.2 6))) = true := h
    rw [Bool.not_eq_true', Bool.or_eq_false_iff] at h
    rintro (⟨e, a, b⟩ | ⟨e, a⟩)
    · have h1 := h.1
      rw [show Nat.beq q.1 13 = true from by rw [e]; rfl, show Nat.ble 14 q.2 = true from Nat.ble_eq_true_of_le a, show Nat.blt q.2 18 = true from by rw [Nat.blt_eq]; exact b] at h1
      cases h1
    · have h2 := h.2
      rw [show Nat.beq q.1 14 = true from by rw [e]; rfl, show Nat.beq q.2 6 = true from by rw [a]; rfl] at h2
      cases h2
theorem gF_r {j : Nat} {avs : List mV} {σ σ' : mS} {x : mX} (h : ev_run sm_all j avs σ x σ') (ha : avs.all gB = true) (hg : HL σ) : gF σ σ' := gF_run h (fun v hv => gB_ok (List.all_eq_true.mp ha v hv)) hg.2
theorem HL_set {σ : mS} {c i k : Nat} {v : Int32} (h : HL σ) (hk : fwh hpS c k = false) : HL (m_set σ c i k (.inl v)) := ⟨HS_set h.1 hk, ⟨h.2.1, h.2.2⟩⟩
theorem HL_setl {σ : mS} {c i k : Nat} {v : Int64} (h : HL σ) (hk : fwh hpS c k = false) : HL (m_set σ c i k (.inr (.inl v))) := ⟨HS_set h.1 hk, ⟨h.2.1, h.2.2⟩⟩
theorem HL_run {j : Nat} {avs : List mV} {σ σ' : mS} {x : mX} (hj : Shs.any (Nat.beq j) = true) (r : ev_run sm_all j avs σ x σ') (ha : avs.all gB = true) (h : HL σ) : HL σ' := ⟨HS_run hj r h.1, (gF_r r ha h).1⟩
theorem ei_lrem {F j f pc : Nat} {z : mAl} {L : List (Option mV)} {st : List mV} {σ : mS} {q : mX × mS} {e : Nat × Nat × Nat × Int × List Nat} {x y : Int64} (h : EV F f j z pc L (.inr (.inl y) :: .inr (.inl x) :: st) σ q) (hr : m_at z.2.1 pc = some (.lrem, e)) : y ≠ 0 ∧ ∃ f', f' < f ∧ EV F f' j z (pc + 1) L (.inr (.inl (x - x / y * y)) :: st) σ q := by
  by_cases hy : y = 0
  · exact absurd ⟨rfl, by show (if y = 0 then none else some (pc + 1, L, (.inr (.inl (x - x / y * y)) : mV) :: st)) = none; rw [if_pos hy]⟩ (ei_ok h hr rfl)
  · obtain ⟨f', g, h⟩ := ei_p h hr rfl rfl (by show (if y = 0 then none else some (pc + 1, L, (.inr (.inl (x - x / y * y)) : mV) :: st)) = some _; rw [if_neg hy])
    exact ⟨hy, f', g, h⟩
/-! methods that change nothing, those that may throw too -/
def ro2 (j : Nat) : Bool := tr_ro j || [131, 132, 133, 136, 140, 141, 142, 144, 145, 147, 148, 149, 182].any (Nat.beq j)
def ro2B (z : mAl) : Bool := z.1.2.2.2.2.2.isEmpty && z.2.1.all (fun q => !(tr_w q.2) && match tr_inv q.2 with
  | none => true
  | some i => ro2 i)
def ro2q (σ : mS) (o : ev_O) : Prop := match o with
  | .inl s' => s'.2.2.2.1 = σ
  | .inr (.inl e) => e.2 = σ
  | .inr (.inr c) => ro2 c.1 = true
theorem ro2_rows : (List.range 190).all (fun j => !(ro2 j) || match m_alF[j]? with
  | some z => ro2B z
  | none => false) = true := by decide +kernel
theorem ro2_lt {j : Nat} (h : ro2 j = true) : j < 190 := by
  unfold ro2 at h
  rw [Bool.or_eq_true] at h
  rcases h with h | h
  · have := tr_ro_lt h
    omega
  · obtain ⟨i, h1, h2⟩ := List.any_eq_true.mp h
    have e := Nat.eq_of_beq_eq_true h2
    subst e
    simp only [List.mem_cons, List.mem_nil_iff, or_false] at h1
    omega
theorem ro2_ok {Gd : ev_G} : ∀ (f j : Nat) (avs : List mV) (σ : mS) (x : mX) (σ' : mS), ro2 j = true → ev_c Gd f j avs σ = some (x, σ') → σ' = σ
  | 0, _, _, _, _, _, _, h => by cases h
  | f + 1, j, avs, σ, x, σ', hj, h => by
    obtain ⟨z, h1, h2, h3⟩ := ev_c_succ.mp h
    have hz : ro2B z = true := by
      have g := List.all_eq_true.mp ro2_rows j (List.mem_range.mpr (ro2_lt hj))
      rw [hj, h1] at g
      exact g
    unfold ro2B at hz
    rw [Bool.and_eq_true] at hz
    have hh := List.isEmpty_iff.mp hz.1
    have row : ∀ {pc : Nat} {r : mRow}, m_at z.2.1 pc = some r → tr_w r = false ∧ ∀ i, tr_inv r = some i → ro2 i = true := by
      intro pc r hr
      have g := List.all_eq_true.mp hz.2 _ (m_at_mem hr)
      rw [Bool.and_eq_true, Bool.not_eq_true'] at g
      refine ⟨g.1, fun i hi => ?_⟩
      have g2 := g.2
      dsimp only at g2
      rw [hi] at g2
      exact g2
    have same : ∀ (s : ev_T) (o : ev_O), ev_st none z s = some o → ro2q s.2.2.2.1 o := by
      intro s o ho
      unfold ev_st at ho
      cases hr : m_at z.2.1 s.1 with
      | none =>
        unfold ev_nf at ho
        rw [hr] at ho
        cases ho
      | some r =>
        have g := tr_same hr (row hr).1 ho
        rcases o with s' | e | c
        · exact g
        · exact g
        · exact (row hr).2 _ g
    refine ev_inv (I := fun s => s.2.2.2.1 = σ) (Po := fun _ τ => τ = σ) (fun s s' hI ho => (same s _ ho).trans hI) (fun s e hI ho => (same s _ ho).trans hI) (fun s c y τ hI ho hc => ?_) f _ x σ' rfl h3
    have e := ro2_ok f c.1 c.2.2.1 s.2.2.2.1 y τ (same s _ ho) hc
    cases y with
    | inl v => exact e.trans hI
    | inr b =>
      dsimp only
      rw [hh]
      exact e.trans hI
theorem ro2_run {Gd : ev_G} {j : Nat} {avs : List mV} {σ σ' : mS} {x : mX} (hj : ro2 j = true) (h : ev_run Gd j avs σ x σ') : σ' = σ := by
  obtain ⟨f, h⟩ := h
  exact ro2_ok f j avs σ x σ' hj h
/-! calls under handlers -/
def ev_bh (F f j : Nat) (z : mAl) (pc : Nat) (L : List (Option mV)) (st : List mV) (σ : mS) (q : mX × mS) (c : Nat) (avs : List mV) : Prop := ∃ x σ1, ev_run sm_all c avs σ x σ1 ∧ ((∃ v, x = .inl v ∧ ∃ f', f' < f ∧ EV F f' j z (pc + 3) L (v.toList ++ st) σ1 q) ∨ ∃ b, x = .inr b ∧ ∃ (h : Nat) (i : Nat) (r : mRow), m_hnd z.1.2.2.2.2.2 pc b = some h ∧ m_at z.2.1 h = some r ∧ r.1 = .astore i ∧ ∃ f', f' < f ∧ EV F f' j z (h + 2) ((m_clr L i).set i none) [] σ1 q)
theorem ei_bh {F f j : Nat} {z : mAl} {q : mX × mS} {s : ev_T} {f' : Nat} {c : Nat × mMt × List mV × List mV} (hh : z.1.2.2.2.2.2.isEmpty = false) (ha : z.1.2.2.2.2.2.all (fun w => match m_at z.2.1 w.2.2.1 with
  | some r => (match r.1 with
    | .astore _ => true
    | _ => false)
  | none => false) = true) (hf : f' < f) (o2 : ev_ro (fun s' => ev_r none sm_all (ev_c sm_all F) j z f' s' = some q) (ev_c sm_all F) z s q (.inr (.inr c))) : ev_bh F f j z s.1 s.2.1 c.2.2.2 s.2.2.2.1 q c.1 c.2.2.1 := by
  obtain ⟨x, σ', g1, g2⟩ := o2
  refine ⟨x, σ', ⟨F, g1⟩, ?_⟩
  cases x with
  | inl v => exact Or.inl ⟨v, rfl, f', hf, _, _, g2⟩
  | inr b =>
    right
    refine ⟨b, rfl, ?_⟩
    dsimp only at g2
    have mem : ∀ (l : List (Nat × Nat × Nat × Nat)) (h : Nat), m_hnd l s.1 b = some h → ∃ w ∈ l, w.2.2.1 = h := by
      intro l h e
      induction l with
      | nil => cases e
      | cons w t IH =>
        unfold m_hnd at e
        cases c : (Nat.ble w.1 s.1 && Nat.blt s.1 w.2.1 && Nat.beq (m_hdx w.2.2.2) b) with
        | true =>
          rw [c] at e
          exact ⟨w, List.mem_cons_self, Option.some.inj e⟩
        | false =>
          rw [c] at e
          obtain ⟨w', a, b⟩ := IH e
          exact ⟨w', List.mem_cons_of_mem _ a, b⟩
    cases e : z.1.2.2.2.2.2 with
    | nil => rw [e] at hh; cases hh
    | cons w ws =>
      rw [e] at g2
      dsimp only at g2
      obtain ⟨s', k1, k2⟩ := g2
      rw [← e] at k1 ⊢
      unfold ev_hd at k1
      cases e1 : m_hnd z.1.2.2.2.2.2 s.1 b with
      | none => rw [e1] at k1; cases k1
      | some h =>
        rw [e1] at k1
        dsimp only at k1
        obtain ⟨w', m1, m2⟩ := mem _ _ e1
        have g := List.all_eq_true.mp ha w' m1
        rw [m2] at g
        cases e2 : m_at z.2.1 h with
        | none => rw [e2] at k1; cases k1
        | some r =>
          rw [e2] at k1 g
          dsimp only at k1 g
          cases e3 : r.1 with
          | astore i =>
            rw [e3] at k1
            dsimp only at k1
            by_cases hi : i < s.2.1.length
            · rw [if_pos hi] at k1
              cases k1
              exact ⟨h, i, r, rfl, e2, e3, f', hf, _, _, k2⟩
            · rw [if_neg hi] at k1; cases k1
          | _ => rw [e3] at g; cases g
section EIH
variable {F f j : Nat} {z : mAl} {pc : Nat} {L : List (Option mV)} {st : List mV} {σ : mS} {q : mX × mS} {r : mRow}
theorem ei_vh {i : Nat} {e : Nat × Nat × Nat × Int × List Nat} {p : Nat × Nat} {as : List mV} (h : EV F f j z pc L (as ++ .inr (.inr (some p)) :: st) σ q) (hr : m_at z.2.1 pc = some (.invokevirtual i, e)) (ha : as.length = e.2.2.1) (hh : z.1.2.2.2.2.2.isEmpty = false) (hb : z.1.2.2.2.2.2.all (fun w => match m_at z.2.1 w.2.2.1 with
  | some r => (match r.1 with
    | .astore _ => true
    | _ => false)
  | none => false) = true) : ev_bh F f j z pc L st σ q e.2.1 (.inr (.inr (some p)) :: as.reverse) := by
  obtain ⟨k, n, h⟩ := h
  obtain ⟨f', rfl, o, o1, o2⟩ := ei h
  unfold ev_st ev_nf at o1
  dsimp only at o1
  rw [hr] at o1
  dsimp only at o1
  obtain ⟨-, o1⟩ := ev_if_some.mp o1
  cases hy : m_mt[e.2.1]? with
  | none => rw [hy] at o1; cases o1
  | some y =>
    rw [hy] at o1
    dsimp only at o1
    unfold ev_callV at o1
    have e1 : (as ++ (.inr (.inr (some p)) : mV) :: st).drop e.2.2.1 = .inr (.inr (some p)) :: st := by rw [← ha, List.drop_left]
    have e2 : (as ++ (.inr (.inr (some p)) : mV) :: st).take e.2.2.1 = as := by rw [← ha, List.take_left]
    rw [e1] at o1
    dsimp only at o1
    obtain ⟨⟨p1, -⟩, o1⟩ := ev_if_some.mp o1
    unfold m_take at o1
    rw [e2, ← p1] at o1
    cases o1
    exact ei_bh hh hb (Nat.lt_succ_self _) o2
theorem ei_sh {i : Nat} {e : Nat × Nat × Nat × Int × List Nat} {as : List mV} (h : EV F f j z pc L (as ++ st) σ q) (hr : m_at z.2.1 pc = some (.invokestatic i, e)) (h1 : e.2.1 < 1000) (ha : as.length = e.2.2.1) (hh : z.1.2.2.2.2.2.isEmpty = false) (hb : z.1.2.2.2.2.2.all (fun w => match m_at z.2.1 w.2.2.1 with
  | some r => (match r.1 with
    | .astore _ => true
    | _ => false)
  | none => false) = true) : ev_bh F f j z pc L st σ q e.2.1 as.reverse := by
  obtain ⟨k, n, h⟩ := h
  obtain ⟨f', rfl, o, o1, o2⟩ := ei h
  unfold ev_st ev_nf at o1
  dsimp only at o1
  rw [hr] at o1
  dsimp only at o1
  obtain ⟨-, o1⟩ := ev_if_some.mp o1
  rw [if_neg (by omega)] at o1
  cases hy : m_mt[e.2.1]? with
  | none => rw [hy] at o1; cases o1
  | some y =>
    rw [hy] at o1
    dsimp only at o1
    unfold ev_callS at o1
    obtain ⟨-, o1⟩ := ev_if_some.mp o1
    unfold m_take at o1
    have e1 : (as ++ st).drop e.2.2.1 = st := by rw [← ha, List.drop_left]
    have e2 : (as ++ st).take e.2.2.1 = as := by rw [← ha, List.take_left]
    dsimp only at o1
    rw [e1, e2] at o1
    cases o1
    exact ei_bh hh hb (Nat.lt_succ_self _) o2
end EIH
/-- what is told of a throw -/
def hv (b : Nat) : Int64 := if b = 0 then Int64.ofInt (-3000000000) else if b = 1 then Int64.ofInt (-2000000000) else Int64.ofInt (-1000000000)
def hw (b : Nat) : Int32 := if b = 0 then Int32.ofInt (-3) else if b = 1 then Int32.ofInt (-2) else Int32.ofInt (-1)
theorem hdx_b {i : Nat} (h : m_hdx i < 9) : m_hdx i = 0 ∨ m_hdx i = 1 ∨ m_hdx i = 2 := by
  unfold m_hdx at h ⊢
  split at h
  · exact Or.inl rfl
  · exact Or.inr (Or.inl rfl)
  · exact Or.inr (Or.inr rfl)
  · exact absurd h (by decide)
theorem bh_I {F f j : Nat} {z : mAl} {pc : Nat} {L : List (Option mV)} {st : List mV} {σ : mS} {q : mX × mS} {c : Nat} {avs : List mV} {zc : mAl} (h : ev_bh F f j z pc L st σ q c avs) (hz : m_alF[c]? = some zc) (ht : zc.1.2.2.2.1 = some .int ∨ zc.1.2.2.2.1 = some .boolean) : (∃ (v : Int32) (σ1 : mS), ev_run sm_all c avs σ (.inl (some (.inl v))) σ1 ∧ ∃ f', f' < f ∧ EV F f' j z (pc + 3) L (.inl v :: st) σ1 q) ∨ ∃ (b : Nat) (σ1 : mS), ev_run sm_all c avs σ (.inr b) σ1 ∧ ∃ (h : Nat) (i : Nat) (r : mRow), m_hnd z.1.2.2.2.2.2 pc b = some h ∧ m_at z.2.1 h = some r ∧ r.1 = .astore i ∧ ∃ f', f' < f ∧ EV F f' j z (h + 2) ((m_clr L i).set i none) [] σ1 q := by
  obtain ⟨x, σ1, r, ⟨v, rfl, g⟩ | ⟨b, rfl, e⟩⟩ := h
  · have t := ev_ty hz r
    rcases v with _ | y | y | y
    · have t : zc.1.2.2.2.1 = none := t
      rcases ht with e | e <;> rw [e] at t <;> cases t
    · exact Or.inl ⟨y, σ1, r, g⟩
    · have t : zc.1.2.2.2.1 = some .long := t
      rcases ht with e | e <;> rw [e] at t <;> cases t
    · have t : m_isr zc.1.2.2.2.1 = true := t
      rcases ht with e | e <;> rw [e] at t <;> cases t
  · exact Or.inr ⟨b, σ1, r, e⟩
theorem bh_L {F f j : Nat} {z : mAl} {pc : Nat} {L : List (Option mV)} {st : List mV} {σ : mS} {q : mX × mS} {c : Nat} {avs : List mV} {zc : mAl} (h : ev_bh F f j z pc L st σ q c avs) (hz : m_alF[c]? = some zc) (ht : zc.1.2.2.2.1 = some .long) : (∃ (v : Int64) (σ1 : mS), ev_run sm_all c avs σ (.inl (some (.inr (.inl v)))) σ1 ∧ ∃ f', f' < f ∧ EV F f' j z (pc + 3) L (.inr (.inl v) :: st) σ1 q) ∨ ∃ (b : Nat) (σ1 : mS), ev_run sm_all c avs σ (.inr b) σ1 ∧ ∃ (h : Nat) (i : Nat) (r : mRow), m_hnd z.1.2.2.2.2.2 pc b = some h ∧ m_at z.2.1 h = some r ∧ r.1 = .astore i ∧ ∃ f', f' < f ∧ EV F f' j z (h + 2) ((m_clr L i).set i none) [] σ1 q := by
  obtain ⟨x, σ1, r, ⟨v, rfl, g⟩ | ⟨b, rfl, e⟩⟩ := h
  · have t := ev_ty hz r
    rw [ht] at t
    rcases v with _ | y | y | y
    · cases t
    · rcases t with t | ⟨t, -⟩ <;> cases t
    · exact Or.inl ⟨y, σ1, r, g⟩
    · cases t
  · exact Or.inr ⟨b, σ1, r, e⟩
def Shl : List Nat := [174, 175, 176, 124, 125, 126, 127, 128, 129, 130, 131, 132, 133, 134, 135, 136, 137, 138, 139, 140, 141, 142, 143, 144, 145, 146, 147, 148, 149, 150, 151, 152, 153, 154, 155, 156] ++ Shs
theorem Shl_ok : fw_S hpS Shl = true := by decide +kernel
theorem HL_r2 {j : Nat} {avs : List mV} {σ σ' : mS} {x : mX} (hj : Shl.any (Nat.beq j) = true) (r : ev_run sm_all j avs σ x σ') (ha : avs.all gB = true) (h : HL σ) : HL σ' := ⟨HS_of h.1 (fw_run Shl_ok hj r), (gF_r r ha h).1⟩
def dv (x : mX) : Int64 := match x with
  | .inl (some (.inl v)) => v.toInt64
  | .inl (some (.inr (.inl v))) => v
  | .inr b => hv b
  | _ => 0
