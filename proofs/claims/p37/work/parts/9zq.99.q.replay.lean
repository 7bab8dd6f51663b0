/-! the replay's answer is yes -/
/-- cells of the first hall, the calls, the face, the feed, the reference -/
def fo (c i : Nat) : Prop := i < sm_off c ∨ (c = 1 ∨ c = 3 ∨ c = 5 ∨ c = 9 ∨ c = 11 ∨ c = 12) ∨ (c = 15 ∧ i < 0) ∨ (c = 19 ∧ i < 1)
def foB (c h : Nat) : Bool := Nat.blt h (sm_off c) || ([1, 3, 5, 9, 11, 12].any (Nat.beq c) || ((Nat.beq c 15 && Nat.blt h 0) || (Nat.beq c 19 && Nat.blt h 1)))
theorem foB_ok {c h i : Nat} (hb : foB c h = true) (hi : i ≤ h) : fo c i := by
  unfold foB at hb
  rw [Bool.or_eq_true, Bool.or_eq_true, Bool.or_eq_true, Bool.and_eq_true, Bool.and_eq_true] at hb
  rcases hb with hb | hb | hb | hb
  · have := Nat.blt_eq.mp hb
    exact Or.inl (by omega)
  · obtain ⟨y, y1, y2⟩ := List.any_eq_true.mp hb
    have e := Nat.eq_of_beq_eq_true y2
    subst e
    simp only [List.mem_cons, List.mem_nil_iff, or_false] at y1
    exact Or.inr (Or.inl y1)
  · have e := Nat.eq_of_beq_eq_true hb.1
    have := Nat.blt_eq.mp hb.2
    exact Or.inr (Or.inr (Or.inl ⟨e, by omega⟩))
  · have e := Nat.eq_of_beq_eq_true hb.1
    have := Nat.blt_eq.mp hb.2
    exact Or.inr (Or.inr (Or.inr ⟨e, by omega⟩))
theorem kk_ck : (List.range 22).all (fun c => match ac_K0.1[c]? with
  | some l => l.all (fun g => foB c g.2.2.1)
  | none => true) = true := by decide +kernel
theorem kk_cl : (List.range 22).all (fun c => match ac_K0.2[c]? with
  | some l => l.all (fun q => foB c q.2.1)
  | none => true) = true := by decide +kernel
theorem kk_22 : ac_K0.1.length ≤ 22 ∧ ac_K0.2.length ≤ 22 := by decide +kernel
/-- no trades of a reference are counted here -/
theorem kk_tr0 {σ : mS} (h : ac_KK ac_K0 σ) : ac_tr σ = 0 := by
  have t := h.1 12 [(12, 0, 0, 35, 35, (0, 0, 0, 0, 0, 0))] rfl _ List.mem_cons_self 0 35 (Nat.le_refl _) (Nat.le_refl _) (Nat.le_refl _) (Nat.le_refl _)
  obtain ⟨y, y1, y2, y3⟩ := v_Ti t
  unfold ac_tr
  rw [show m_get σ 12 0 ac_TR = .inl y from y1]
  show y.toInt = 0
  omega
theorem kk_old {σ σ' : mS} (h : ac_KK ac_K0 σ) (hm : ∀ c i k, fo c i → m_get σ' c i k = m_get σ c i k) (hl : ∀ c i, 13 ≤ c → fo c i → σ'.2.1 c i = σ.2.1 c i) : ac_KK ac_K0 σ' := by
  have t0 := kk_tr0 h
  obtain ⟨h1, h2, h3⟩ := h
  refine ⟨fun c l hc g hg i k i1 i2 k1 k2 => ?_, fun c l hc q hq i i1 i2 => ?_, fun k hk => ?_⟩
  · have lt : c < 22 := Nat.lt_of_lt_of_le (List.getElem?_eq_some_iff.mp hc).1 kk_22.1
    have w := List.all_eq_true.mp kk_ck c (List.mem_range.mpr lt)
    rw [hc] at w
    rw [hm c i k (foB_ok (List.all_eq_true.mp w g hg) i2)]
    exact h1 c l hc g hg i k i1 i2 k1 k2
  · have lt : c < 22 := Nat.lt_of_lt_of_le (List.getElem?_eq_some_iff.mp hc).1 kk_22.2
    have w := List.all_eq_true.mp kk_cl c (List.mem_range.mpr lt)
    rw [hc] at w
    have g := h2 c l hc q hq i i1 i2
    exact ⟨g.1, by rw [hl c i g.1 (foB_ok (List.all_eq_true.mp w q hq) i2)]; exact g.2⟩
  · have e : ac_tr σ' = ac_tr σ := by
      unfold ac_tr
      rw [hm 12 0 _ (Or.inr (Or.inl (by decide)))]
    rw [e] at hk
    omega
theorem off_sm {c i : Nat} (h : i < sm_mx c) : i < sm_off c ∧ ¬ (c = 1 ∨ c = 3 ∨ c = 5 ∨ c = 9 ∨ c = 11 ∨ c = 12 ∨ c = 15 ∨ c = 19) := by
  rcases mx_else h with rfl | rfl | rfl | rfl | rfl | rfl | rfl | rfl | rfl | rfl | rfl | rfl | rfl | rfl <;>
    refine ⟨Nat.lt_of_lt_of_le h (by decide), by decide⟩
theorem fo_f2 {c i : Nat} (h : fo c i) : ∀ i0, i0 < sm_mx c → i ≠ i0 + sm_off c := by
  intro i0 h0 e
  obtain ⟨g1, g2⟩ := off_sm h0
  rcases h with h | h | h | h
  · omega
  · exact g2 (by omega)
  · exact g2 (by omega)
  · exact g2 (by omega)
theorem fo_zH {c j k : Nat} (h : fo c j) : ¬ zH sm_off c j k := by
  intro z
  have hoff : sm_off 0 = 1 ∧ sm_off 2 = 1 ∧ sm_off 6 = 6 ∧ sm_off 8 = 3 ∧ sm_off 14 = 7 := by decide
  obtain ⟨o0, o2, o6, o8, o14⟩ := hoff
  rcases z with (((z | z) | z) | z) | z
  · obtain ⟨rfl, z2s, -⟩ := z
    rcases h with h | h | h | h <;> omega
  · obtain ⟨rfl, z2s, -⟩ := z
    rcases h with h | h | h | h <;> omega
  · obtain ⟨rfl, z2s, -⟩ := z
    rcases h with h | h | h | h <;> omega
  · obtain ⟨rfl, z2s, -⟩ := z
    rcases h with h | h | h | h <;> omega
  · obtain ⟨rfl, z2s, -⟩ := z
    rcases h with h | h | h | h <;> omega
theorem rp_tail {σ0 σ : mS} {cs : List Nat} {k n : Nat} (hk : k ≤ 347) (hn : n ≤ 4031) (hx0 : hxs (fun _ => 0) σ0) (h10 : σ0.1 1 = 0) (hH : hs_H σ0 cs σ) (hK : ac_KK ac_K0 σ) (hch : rp_ch σ cs (m_get σ 11 0 3)) (h5 : m_get σ 11 0 5 = .inl (Int32.ofNat cs.length)) (hl : cs.length ≤ 512) (h0 : m_get σ 11 0 0 = rf 4 0) (h2 : m_get σ 11 0 2 = rf 4 1) (hY : hy sm_off σ) :
    ∃ σ', ER 157 z157s (18, [some (rf 11 0), none, none], [], σ, k, n) (.inl (some (.inl 1)), σ') ∧ σ'.1 = σ.1 ∧ σ'.2.1 = σ.2.1 ∧ (∀ c i k, fo c i → m_get σ' c i k = m_get σ c i k) ∧ ac_KK ac_K0 σ' ∧ hy sm_off σ' ∧ hs_H σ0 cs σ' := by
  obtain ⟨τ, r, hxτ, zτ⟩ := hy_clear hY
  have fτ : ∀ c i k, fo c i → m_get τ c i k = m_get σ c i k := fun c i k h => zτ.2.2.2 c i k (fo_zH h)
  have f1 : ∀ i, fo 1 i := fun i => Or.inr (Or.inl (Or.inl rfl))
  have f11 : fo 11 0 := Or.inr (Or.inl (by decide))
  obtain ⟨σ', g1, g2, g3⟩ := hH τ (fun i k _ _ => fτ 1 i k (f1 i)) (hx_hr hx0 h10 hxτ)
  have fσ : ∀ c i k, fo c i → m_get σ' c i k = m_get σ c i k := fun c i k h => (g3.2.2 c i k (fo_f2 h)).trans (fτ c i k h)
  have c1 : σ'.1 = σ.1 := g3.1.trans zτ.1
  have c2 : σ'.2.1 = σ.2.1 := g3.2.1.trans zτ.2.1
  have hK' : ac_KK ac_K0 σ' := kk_old hK fσ (fun c i _ _ => by rw [c2])
  have hG : hs_H σ [] σ' := hs_grow hs_H0 (by rw [c1]; exact Nat.le_refl _) (fun i k _ _ => fσ 1 i k (f1 i)) (fun c i k h => fσ c i k (Or.inl (off_sm h).1)) (fun c i _ _ => by rw [c2])
  obtain ⟨σx, e, hr, -⟩ := hG σ' (fun _ _ _ _ => rfl) g2
  have e : σ' = σx := e
  subst e
  refine ⟨σ', ?_, c1, c2, fσ, hK', hs_fold_hy g1 (hx_hy hxτ), hs_grow hH (by rw [c1]; exact Nat.le_refl _) (fun i k _ _ => fσ 1 i k (f1 i)) (fun c i k h => fσ c i k (Or.inl (off_sm h).1)) (fun c i _ _ => by rw [c2])⟩
  have tw := is_twin hK' hr
  have e3 := fτ 11 0 3 f11
  obtain ⟨x, hxs⟩ := rp_ch.rf hch
  have lp := rp_loop (q := (.inl (some (.inl 1)), σ')) hl hk hn (fun v i => by
    refine er_p rfl rfl rfl rfl ?_
    refine er_get rfl rfl ((fσ 11 0 2 f11).trans h2) ?_
    refine er_p rfl rfl rfl rfl ?_
    refine er_get rfl rfl ((fσ 11 0 0 f11).trans h0) ?_
    refine er_vir (as := [rf 4 0]) (v := some (.inl 1)) rfl rfl rfl rfl rfl ⟨Nat.le_of_ble_eq_true rfl, ⟨by show k + 0 ≤ 347; exact hk, by show n + 0 ≤ 4031; exact hn⟩⟩ tw ?_
    exact er_iret rfl ⟨hk, hn⟩ (Or.inr ⟨rfl, Or.inr rfl⟩)) cs 0 (m_get σ 11 0 3) τ (Nat.zero_add _) ((fτ 11 0 2 f11).trans h2) ((fτ 11 0 5 f11).trans h5) (rp_ch.of ⟨by rw [zτ.1], fun i k => fτ 1 i k (f1 i)⟩ hch) g1
  refine er_p rfl rfl rfl rfl ?_
  refine er_get rfl rfl h2 ?_
  refine er_vir (as := []) (v := none) rfl rfl rfl rfl rfl ⟨Nat.le_of_ble_eq_true rfl, ⟨by show k + 0 ≤ 347; exact hk, by show n + 0 ≤ 4031; exact hn⟩⟩ r ?_
  refine er_p rfl rfl rfl rfl ?_
  refine er_get rfl rfl e3 ?_
  rw [hxs] at lp ⊢
  refine er_p rfl rfl rfl rfl ?_
  refine er_p rfl rfl rfl rfl ?_
  refine er_p rfl rfl rfl rfl ?_
  exact lp
/-- a second replay, and each later one -/
theorem rp_runB {σ0 σ : mS} {cs : List Nat} (hx0 : hxs (fun _ => 0) σ0) (h10 : σ0.1 1 = 0) (hH : hs_H σ0 cs σ) (hK : ac_KK ac_K0 σ) (hch : rp_ch σ cs (m_get σ 11 0 3)) (h5 : m_get σ 11 0 5 = .inl (Int32.ofNat cs.length)) (hl : cs.length ≤ 512) (h0 : m_get σ 11 0 0 = rf 4 0) (h2 : m_get σ 11 0 2 = rf 4 1) (hY : hy sm_off σ) :
    ∃ σ', ev_run sm_all 157 [rf 11 0] σ (.inl (some (.inl 1))) σ' ∧ σ'.1 = σ.1 ∧ σ'.2.1 = σ.2.1 ∧ (∀ c i k, fo c i → m_get σ' c i k = m_get σ c i k) ∧ ac_KK ac_K0 σ' ∧ hy sm_off σ' ∧ hs_H σ0 cs σ' := by
  obtain ⟨σ', r, w⟩ := rp_tail (k := 0) (n := 0) (by decide) (by decide) hx0 h10 hH hK hch h5 hl h0 h2 hY
  refine ⟨σ', er_go z157s_at (Nat.le_of_ble_eq_true rfl) ?_, w⟩
  refine er_p rfl rfl rfl rfl ?_
  refine er_get rfl rfl h2 ?_
  refine er_ct rfl rfl rfl (fun z => by cases z) ?_
  exact r
