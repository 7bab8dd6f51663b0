/-! perform, backwards: an order that is refused changes nothing; behind every call no paper is marked -/
def z4s : mAl := ((yX0_add, cX0_add, 7, (some (.object "NettingHall$Order")), { frames := 0, cells := 0, slots := 0, locals := 0 }, []), rw_X0_add, false)
theorem z4s_at : m_alF[4]? = some z4s := rfl
def z8s : mAl := ((yX0_sumGoodFor, cX0_sumGoodFor, 8, (some .int), { frames := 1, cells := 0, slots := 0, locals := 22 }, []), rw_X0_sumGoodFor, false)
theorem z8s_at : m_alF[8]? = some z8s := rfl
def z16s : mAl := ((yX0_firstToWake, cX0_firstToWake, 5, (some (.object "NettingHall$Order")), { frames := 1, cells := 0, slots := 0, locals := 21 }, []), rw_X0_firstToWake, false)
theorem z16s_at : m_alF[16]? = some z16s := rfl
def z24s : mAl := ((yX2_paperAt, cX2_paperAt, 2, (some (.object "NettingHall$Paper")), { frames := 0, cells := 0, slots := 0, locals := 0 }, []), rw_X2_paperAt, false)
theorem z24s_at : m_alF[24]? = some z24s := rfl
def z27s : mAl := ((yX2_isContinuous, cX2_isContinuous, 3, (some .boolean), { frames := 1, cells := 0, slots := 0, locals := 21 }, []), rw_X2_isContinuous, false)
theorem z27s_at : m_alF[27]? = some z27s := rfl
def z61s : mAl := ((yX4_perform, cX4_perform, 4, (some .long), { frames := 6, cells := 0, slots := 0, locals := 167 }, []), rw_X4_perform, false)
theorem z61s_at : m_alF[61]? = some z61s := rfl
def z62s : mAl := ((yX4_changePaper, cX4_changePaper, 3, (some .long), { frames := 5, cells := 0, slots := 0, locals := 132 }, []), rw_X4_changePaper, false)
theorem z62s_at : m_alF[62]? = some z62s := rfl
def z63s : mAl := ((yX4_moveMoney, cX4_moveMoney, 2, (some .long), { frames := 5, cells := 0, slots := 0, locals := 144 }, []), rw_X4_moveMoney, false)
theorem z63s_at : m_alF[63]? = some z63s := rfl
def z64s : mAl := ((yX4_letOrderCome, cX4_letOrderCome, 9, (some .int), { frames := 4, cells := 0, slots := 0, locals := 113 }, []), rw_X4_letOrderCome, false)
theorem z64s_at : m_alF[64]? = some z64s := rfl
def z65s : mAl := ((yX4_letStopWait, cX4_letStopWait, 3, (some .int), { frames := 1, cells := 0, slots := 0, locals := 26 }, []), rw_X4_letStopWait, false)
theorem z65s_at : m_alF[65]? = some z65s := rfl
def z66s : mAl := ((yX4_enter, cX4_enter, 7, none, { frames := 3, cells := 0, slots := 0, locals := 87 }, []), rw_X4_enter, false)
theorem z66s_at : m_alF[66]? = some z66s := rfl
def z69s : mAl := ((yX4_wakeStops, cX4_wakeStops, 5, none, { frames := 4, cells := 0, slots := 0, locals := 113 }, []), rw_X4_wakeStops, false)
theorem z69s_at : m_alF[69]? = some z69s := rfl
def z70s : mAl := ((yX4_tieOrders, cX4_tieOrders, 5, (some .int), { frames := 1, cells := 0, slots := 0, locals := 21 }, []), rw_X4_tieOrders, false)
theorem z70s_at : m_alF[70]? = some z70s := rfl
def z71s : mAl := ((yX4_cancelOrder, cX4_cancelOrder, 5, (some .int), { frames := 1, cells := 0, slots := 0, locals := 27 }, []), rw_X4_cancelOrder, false)
theorem z71s_at : m_alF[71]? = some z71s := rfl
def z72s : mAl := ((yX4_letSpreadCome, cX4_letSpreadCome, 10, (some .int), { frames := 4, cells := 0, slots := 0, locals := 92 }, []), rw_X4_letSpreadCome, false)
theorem z72s_at : m_alF[72]? = some z72s := rfl
def z76s : mAl := ((yX4_passTicks, cX4_passTicks, 4, (some .int), { frames := 5, cells := 0, slots := 0, locals := 144 }, []), rw_X4_passTicks, false)
theorem z76s_at : m_alF[76]? = some z76s := rfl
def z112s : mAl := ((yX8_wakesStops, cX8_wakesStops, 1, (some .boolean), { frames := 0, cells := 0, slots := 0, locals := 0 }, []), rw_X8_wakesStops, false)
theorem z112s_at : m_alF[112]? = some z112s := rfl
theorem vp_lt {x : Int32} {n : Nat} (h : vp_in x n) : x.toNatClampNeg < n := Nat.lt_of_not_le (fun z => h (Or.inr z))
theorem y0_o {σ : mS} (Y : hy (fun _ => 0) σ) {k : Nat} (hk : k < 120) : m_get σ 17 0 k = rf 7 k ∧ m_get σ 7 k 0 = .inl (Int32.ofNat k) := by
  have e := Y.2.2.1 k hk
  simp only [Nat.zero_add] at e
  exact e
theorem y0_p {σ : mS} (Y : hy (fun _ => 0) σ) {k : Nat} (hk : k < 3) : m_get σ 18 0 k = rf 8 k := by
  have e := (Y.2.2.2.2.2.2.2.2.1 k hk).1
  simp only [Nat.zero_add] at e
  exact e
theorem y0_l {σ : mS} (Y : hy (fun _ => 0) σ) : σ.2.1 17 0 = 120 ∧ σ.2.1 18 0 = 3 := ⟨Y.2.1, Y.2.2.2.2.2.2.2.2.2.2.2.2.1⟩
theorem y0_f {σ : mS} (Y : hy (fun _ => 0) σ) : m_get σ 0 0 0 = rf 17 0 ∧ m_get σ 4 0 0 = rf 0 0 ∧ m_get σ 4 0 1 = rf 2 0 ∧ m_get σ 2 0 2 = rf 18 0 := ⟨Y.1.1, Y.2.2.2.1.1, Y.2.2.2.1.2, Y.2.2.2.2.2.1.2.2.1⟩
/-- a paper of the first hall, or none -/
theorem w24 {σ σ' : mS} {x : Int32} {w : mX} (Y : hy (fun _ => 0) σ) (h : ev_run sm_all 24 [rf 2 0, .inl x] σ w σ') : w = .inl (some (.inr (.inr none))) ∨ ∃ p, p < 3 ∧ w = .inl (some (rf 8 p)) := by
  obtain ⟨F, f, h⟩ := ei_go h z24s_at
  have e13 : ∀ f, EV F f 24 z24s 13 [some (rf 2 0), some (.inl x)] [] σ (w, σ') → w = .inl (some (.inr (.inr none))) := by
    intro f h
    replace h := ei_p h rfl rfl rfl rfl
    obtain ⟨f, g, h⟩ := h
    replace h := ei_p h rfl rfl rfl rfl
    obtain ⟨f, g, h⟩ := h
    have e := ei_aret h rfl
    exact congrArg Prod.fst e
  replace h := ei_p h rfl rfl rfl rfl
  obtain ⟨f, g, h⟩ := h
  replace h := ei_c h rfl rfl rfl
  rcases h with ⟨hP, f, g, h⟩ | ⟨hP, f, g, h⟩
  · exact Or.inl (e13 f h)
  replace h := ei_p h rfl rfl rfl rfl
  obtain ⟨f, g, h⟩ := h
  replace h := ei_p h rfl rfl rfl rfl
  obtain ⟨f, g, h⟩ := h
  replace h := ei_get h rfl (y0_f Y).2.2.2
  obtain ⟨f, g, h⟩ := h
  replace h := ei_len h rfl (y0_l Y).2 (by decide)
  obtain ⟨f, g, h⟩ := h
  replace h := ei_c h rfl rfl rfl
  rcases h with ⟨hP, f, g, h⟩ | ⟨hP, f, g, h⟩
  · refine Or.inr ?_
    replace h := ei_p h rfl rfl rfl rfl
    obtain ⟨f, g, h⟩ := h
    replace h := ei_get h rfl (y0_f Y).2.2.2
    obtain ⟨f, g, h⟩ := h
    replace h := ei_p h rfl rfl rfl rfl
    obtain ⟨f, g, h⟩ := h
    replace h := ei_ald h rfl (fun vp => y0_p Y (by have := vp_lt vp; have e : σ.2.1 18 0 = 3 := (y0_l Y).2; rw [e] at this; exact this))
    obtain ⟨vp, f, g, h⟩ := h
    have e := ei_aret h rfl
    have e18 : σ.2.1 18 0 = 3 := (y0_l Y).2
    have vp := vp_lt vp
    have vp : x.toNatClampNeg < σ.2.1 18 0 := vp
    exact ⟨x.toNatClampNeg, by omega, congrArg Prod.fst e⟩
  · exact Or.inl (e13 f h)
/-- a paper without its mark wakes none -/
theorem w112 {σ σ' : mS} {p : Nat} {w : mX} (ht : m_get σ 8 p 7 = .inl 0) (h : ev_run sm_all 112 [rf 8 p] σ w σ') : w = .inl (some (.inl 0)) := by
  obtain ⟨F, f, h⟩ := ei_go h z112s_at
  replace h := ei_p h rfl rfl rfl rfl
  obtain ⟨f, g, h⟩ := h
  replace h := ei_get h rfl ht
  obtain ⟨f, g, h⟩ := h
  replace h := ei_c h rfl rfl rfl
  rcases h with ⟨hP, f, g, h⟩ | ⟨hP, f, g, h⟩
  · skip
    replace h := ei_p h rfl rfl rfl rfl
    obtain ⟨f, g, h⟩ := h
    exact congrArg Prod.fst (ei_iret h rfl)
  · exact absurd rfl hP
/-- none is woken where no paper is marked -/
theorem w16 {σ σ' : mS} {w : mX} (Y : hy (fun _ => 0) σ) (ht : ∀ i, i < 3 → m_get σ 8 i 7 = .inl 0) (h : ev_run sm_all 16 [rf 0 0, rf 2 0] σ w σ') : w = .inl (some (.inr (.inr none))) ∨ ∃ b, w = .inr b := by
  obtain ⟨F, f, h⟩ := ei_go h z16s_at
  have e77 : ∀ f L, EV F f 16 z16s 77 L [] σ (w, σ') → w = .inl (some (.inr (.inr none))) := by
    intro f L h
    replace h := ei_p h rfl rfl rfl rfl
    obtain ⟨f, g, h⟩ := h
    exact congrArg Prod.fst (ei_aret h rfl)
  have loop : ∀ N f, f < N → ∀ (i : Int32) l3 l4, EV F f 16 z16s 2 [some (rf 0 0), some (rf 2 0), some (.inl i), l3, l4] [] σ (w, σ') → w = .inl (some (.inr (.inr none))) ∨ ∃ b, w = .inr b := by
    intro N
    induction N with
    | zero => intro f hf; omega
    | succ N IH =>
      intro f hf i l3 l4 h
      replace h := ei_p h rfl rfl rfl rfl
      obtain ⟨f, g, h⟩ := h
      have hf : f < N := by omega
      replace h := ei_p h rfl rfl rfl rfl
      obtain ⟨f, g, h⟩ := h
      have hf := Nat.lt_trans g hf
      obtain ⟨y, hy⟩ := gt_i (c := 0) (k := 1) rfl σ 0
      replace h := ei_get h rfl hy
      obtain ⟨f, g, h⟩ := h
      have hf := Nat.lt_trans g hf
      replace h := ei_c h rfl rfl rfl
      rcases h with ⟨hP, f, g, h⟩ | ⟨hP, f, g, h⟩
      · exact Or.inl (e77 _ _ h)
      have hf := Nat.lt_trans g hf
      replace h := ei_p h rfl rfl rfl rfl
      obtain ⟨f, g, h⟩ := h
      have hf := Nat.lt_trans g hf
      replace h := ei_p h rfl rfl rfl rfl
      obtain ⟨f, g, h⟩ := h
      have hf := Nat.lt_trans g hf
      replace h := ei_get h rfl (y0_f Y).1
      obtain ⟨f, g, h⟩ := h
      have hf := Nat.lt_trans g hf
      replace h := ei_len h rfl (y0_l Y).1 (by decide)
      obtain ⟨f, g, h⟩ := h
      have hf := Nat.lt_trans g hf
      replace h := ei_c h rfl rfl rfl
      rcases h with ⟨hP, f, g, h⟩ | ⟨hP, f, g, h⟩
      · exact Or.inl (e77 _ _ h)
      have hf := Nat.lt_trans g hf
      replace h := ei_p h rfl rfl rfl rfl
      obtain ⟨f, g, h⟩ := h
      have hf := Nat.lt_trans g hf
      replace h := ei_get h rfl (y0_f Y).1
      obtain ⟨f, g, h⟩ := h
      have hf := Nat.lt_trans g hf
      replace h := ei_p h rfl rfl rfl rfl
      obtain ⟨f, g, h⟩ := h
      have hf := Nat.lt_trans g hf
      replace h := ei_ald h rfl (fun vp => (y0_o Y (by have := vp_lt vp; have e : σ.2.1 17 0 = 120 := (y0_l Y).1; rw [e] at this; exact this)).1)
      obtain ⟨vp, f, g, h⟩ := h
      have hf := Nat.lt_trans g hf
      replace h := ei_p h rfl rfl rfl rfl
      obtain ⟨f, g, h⟩ := h
      have hf := Nat.lt_trans g hf
      replace h := ei_p h rfl rfl rfl rfl
      obtain ⟨f, g, h⟩ := h
      have hf := Nat.lt_trans g hf
      replace h := ei_p h rfl rfl rfl rfl
      obtain ⟨f, g, h⟩ := h
      have hf := Nat.lt_trans g hf
      obtain ⟨y2, hy2⟩ := gt_i (c := 7) (k := 2) rfl σ i.toNatClampNeg
      replace h := ei_get h rfl hy2
      obtain ⟨f, g, h⟩ := h
      have hf := Nat.lt_trans g hf
      replace h := ei_v (as := [.inl y2]) h rfl rfl rfl
      obtain ⟨x, τ, r24, ⟨v, rfl, f, g, h⟩ | ⟨b, rfl, hq⟩⟩ := h
      rotate_left
      · exact Or.inr ⟨b, congrArg Prod.fst hq⟩
      have hf := Nat.lt_trans g hf
      have eτ := ro_run (j := 24) rfl r24
      subst eτ
      have e71 : ∀ f, f < N → ∀ l3 l4, EV F f 16 z16s 71 [some (rf 0 0), some (rf 2 0), some (.inl i), l3, l4] [] τ (w, σ') → w = .inl (some (.inr (.inr none))) ∨ ∃ b, w = .inr b := by
        intro f hf l3 l4 h
        replace h := ei_p h rfl rfl rfl rfl
        obtain ⟨f, g, h⟩ := h
        have hf := Nat.lt_trans g hf
        replace h := ei_p h rfl rfl rfl rfl
        obtain ⟨f, g, h⟩ := h
        have hf := Nat.lt_trans g hf
        exact IH f hf _ l3 l4 h
      obtain ⟨vr, rfl⟩ : ∃ vr, v = some (.inr (.inr vr)) := by
        rcases w24 Y r24 with e | ⟨p, -, e⟩
        · cases e; exact ⟨none, rfl⟩
        · cases e; exact ⟨some (8, p), rfl⟩
      replace h := ei_p h rfl rfl rfl rfl
      obtain ⟨f, g, h⟩ := h
      have hf := Nat.lt_trans g hf
      replace h := ei_p h rfl rfl rfl rfl
      obtain ⟨f, g, h⟩ := h
      have hf := Nat.lt_trans g hf
      obtain ⟨y9, hy9⟩ := gt_i (c := 7) (k := 9) rfl τ i.toNatClampNeg
      replace h := ei_get h rfl hy9
      obtain ⟨f, g, h⟩ := h
      have hf := Nat.lt_trans g hf
      replace h := ei_p h rfl rfl rfl rfl
      obtain ⟨f, g, h⟩ := h
      have hf := Nat.lt_trans g hf
      replace h := ei_c h rfl rfl rfl
      rcases h with ⟨hP, f, g, h⟩ | ⟨hP, f, g, h⟩
      · exact e71 f (Nat.lt_trans g hf) _ _ h
      have hf := Nat.lt_trans g hf
      replace h := ei_p h rfl rfl rfl rfl
      obtain ⟨f, g, h⟩ := h
      have hf := Nat.lt_trans g hf
      replace h := ei_c h rfl rfl rfl
      rcases h with ⟨hP, f, g, h⟩ | ⟨hP, f, g, h⟩
      · exact e71 f (Nat.lt_trans g hf) _ _ h
      have hf := Nat.lt_trans g hf
      rcases w24 Y r24 with e | ⟨p, hp, e⟩
      · cases e; exact absurd rfl hP
      cases e
      replace h := ei_p h rfl rfl rfl rfl
      obtain ⟨f, g, h⟩ := h
      have hf := Nat.lt_trans g hf
      replace h := ei_v (as := []) h rfl rfl rfl
      obtain ⟨x, τ, r112, ⟨v2, rfl, f, g, h⟩ | ⟨b, rfl, hq⟩⟩ := h
      rotate_left
      · exact Or.inr ⟨b, congrArg Prod.fst hq⟩
      have hf := Nat.lt_trans g hf
      have eτ := ro_run (j := 112) rfl r112
      subst eτ
      have e := w112 (ht p hp) r112
      cases e
      replace h := ei_c h rfl rfl rfl
      rcases h with ⟨hP, f, g, h⟩ | ⟨hP, f, g, h⟩
      · exact e71 f (Nat.lt_trans g hf) _ _ h
      exact absurd rfl hP
  replace h := ei_p h rfl rfl rfl rfl
  obtain ⟨f, g, h⟩ := h
  replace h := ei_p h rfl rfl rfl rfl
  obtain ⟨f, g, h⟩ := h
  exact loop (f + 1) f (Nat.lt_succ_self f) _ _ _ h
