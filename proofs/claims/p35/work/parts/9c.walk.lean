/-! perform, backwards: an order that is refused changes nothing; behind every call no paper is marked -/
def z4 : mAl := ((yX0_add, cX0_add, 7, (some (.object "NettingHall$Order")), { frames := 0, cells := 0, slots := 0, locals := 0 }, []), rw_X0_add, false)
theorem z4_at : m_alF[4]? = some z4 := rfl
def z8 : mAl := ((yX0_sumGoodFor, cX0_sumGoodFor, 8, (some .int), { frames := 1, cells := 0, slots := 0, locals := 22 }, []), rw_X0_sumGoodFor, false)
theorem z8_at : m_alF[8]? = some z8 := rfl
def z16 : mAl := ((yX0_firstToWake, cX0_firstToWake, 5, (some (.object "NettingHall$Order")), { frames := 1, cells := 0, slots := 0, locals := 21 }, []), rw_X0_firstToWake, false)
theorem z16_at : m_alF[16]? = some z16 := rfl
def z24 : mAl := ((yX2_paperAt, cX2_paperAt, 2, (some (.object "NettingHall$Paper")), { frames := 0, cells := 0, slots := 0, locals := 0 }, []), rw_X2_paperAt, false)
theorem z24_at : m_alF[24]? = some z24 := rfl
def z27 : mAl := ((yX2_isContinuous, cX2_isContinuous, 3, (some .boolean), { frames := 1, cells := 0, slots := 0, locals := 21 }, []), rw_X2_isContinuous, false)
theorem z27_at : m_alF[27]? = some z27 := rfl
def z61 : mAl := ((yX4_perform, cX4_perform, 4, (some .long), { frames := 6, cells := 0, slots := 0, locals := 167 }, []), rw_X4_perform, false)
theorem z61_at : m_alF[61]? = some z61 := rfl
def z62 : mAl := ((yX4_changePaper, cX4_changePaper, 3, (some .long), { frames := 5, cells := 0, slots := 0, locals := 132 }, []), rw_X4_changePaper, false)
theorem z62_at : m_alF[62]? = some z62 := rfl
def z63 : mAl := ((yX4_moveMoney, cX4_moveMoney, 2, (some .long), { frames := 5, cells := 0, slots := 0, locals := 144 }, []), rw_X4_moveMoney, false)
theorem z63_at : m_alF[63]? = some z63 := rfl
def z64 : mAl := ((yX4_letOrderCome, cX4_letOrderCome, 9, (some .int), { frames := 4, cells := 0, slots := 0, locals := 113 }, []), rw_X4_letOrderCome, false)
theorem z64_at : m_alF[64]? = some z64 := rfl
def z65 : mAl := ((yX4_letStopWait, cX4_letStopWait, 3, (some .int), { frames := 1, cells := 0, slots := 0, locals := 26 }, []), rw_X4_letStopWait, false)
theorem z65_at : m_alF[65]? = some z65 := rfl
def z66 : mAl := ((yX4_enter, cX4_enter, 7, none, { frames := 3, cells := 0, slots := 0, locals := 87 }, []), rw_X4_enter, false)
theorem z66_at : m_alF[66]? = some z66 := rfl
def z69 : mAl := ((yX4_wakeStops, cX4_wakeStops, 5, none, { frames := 4, cells := 0, slots := 0, locals := 113 }, []), rw_X4_wakeStops, false)
theorem z69_at : m_alF[69]? = some z69 := rfl
def z70 : mAl := ((yX4_tieOrders, cX4_tieOrders, 5, (some .int), { frames := 1, cells := 0, slots := 0, locals := 21 }, []), rw_X4_tieOrders, false)
theorem z70_at : m_alF[70]? = some z70 := rfl
def z71 : mAl := ((yX4_cancelOrder, cX4_cancelOrder, 5, (some .int), { frames := 1, cells := 0, slots := 0, locals := 27 }, []), rw_X4_cancelOrder, false)
theorem z71_at : m_alF[71]? = some z71 := rfl
def z72 : mAl := ((yX4_letSpreadCome, cX4_letSpreadCome, 10, (some .int), { frames := 4, cells := 0, slots := 0, locals := 92 }, []), rw_X4_letSpreadCome, false)
theorem z72_at : m_alF[72]? = some z72 := rfl
def z76 : mAl := ((yX4_passTicks, cX4_passTicks, 4, (some .int), { frames := 5, cells := 0, slots := 0, locals := 144 }, []), rw_X4_passTicks, false)
theorem z76_at : m_alF[76]? = some z76 := rfl
def z112 : mAl := ((yX8_wakesStops, cX8_wakesStops, 1, (some .boolean), { frames := 0, cells := 0, slots := 0, locals := 0 }, []), rw_X8_wakesStops, false)
theorem z112_at : m_alF[112]? = some z112 := rfl
theorem vp_lt {x : Int32} {n : Nat} (h : vp_in x n) : x.toNatClampNeg < n := Nat.lt_of_not_le (fun z => h (Or.inr z))
section Y0
variable {σ : mS} (Y : hy (fun _ => 0) σ)
theorem y0_o {k : Nat} (hk : k < 120) : m_get σ 17 0 k = rf 7 k ∧ m_get σ 7 k 0 = .inl (Int32.ofNat k) := by
  have e := Y.2.2.1 k hk
  simp only [Nat.zero_add] at e
  exact e
theorem y0_p {k : Nat} (hk : k < 3) : m_get σ 18 0 k = rf 8 k := by
  have e := (Y.2.2.2.2.2.2.2.2.1 k hk).1
  simp only [Nat.zero_add] at e
  exact e
theorem y0_l : σ.2.1 17 0 = 120 ∧ σ.2.1 18 0 = 3 := ⟨Y.2.1, Y.2.2.2.2.2.2.2.2.2.2.2.2.1⟩
theorem y0_f : m_get σ 0 0 0 = rf 17 0 ∧ m_get σ 4 0 0 = rf 0 0 ∧ m_get σ 4 0 1 = rf 2 0 ∧ m_get σ 2 0 2 = rf 18 0 := ⟨Y.1.1, Y.2.2.2.1.1, Y.2.2.2.1.2, Y.2.2.2.2.2.1.2.2.1⟩
end Y0
/-- a paper of the first hall, or none -/
theorem w24 {σ σ' : mS} {x : Int32} {w : mX} (Y : hy (fun _ => 0) σ) (h : ev_run sm_all 24 [rf 2 0, .inl x] σ w σ') : w = .inl (some (.inr (.inr none))) ∨ ∃ p, p < 3 ∧ w = .inl (some (rf 8 p)) := by
  obtain ⟨F, f, h⟩ := ei_go h z24_at
  have e13 : ∀ f, EV F f 24 z24 13 [some (rf 2 0), some (.inl x)] [] σ (w, σ') → w = .inl (some (.inr (.inr none))) := by
    intro f h
    obtain ⟨f, g, h⟩ := ei_p h rfl rfl rfl rfl
    obtain ⟨f, g, h⟩ := ei_p h rfl rfl rfl rfl
    have e := ei_aret h rfl
    exact congrArg Prod.fst e
  obtain ⟨f, g, h⟩ := ei_p h rfl rfl rfl rfl
  rcases ei_c h rfl rfl rfl with ⟨hP, f, g, h⟩ | ⟨hP, f, g, h⟩
  · exact Or.inl (e13 f h)
  obtain ⟨f, g, h⟩ := ei_p h rfl rfl rfl rfl
  obtain ⟨f, g, h⟩ := ei_p h rfl rfl rfl rfl
  obtain ⟨f, g, h⟩ := ei_get h rfl (y0_f Y).2.2.2
  obtain ⟨f, g, h⟩ := ei_len h rfl (y0_l Y).2 (by decide)
  rcases ei_c h rfl rfl rfl with ⟨hP, f, g, h⟩ | ⟨hP, f, g, h⟩
  · refine Or.inr ?_
    obtain ⟨f, g, h⟩ := ei_p h rfl rfl rfl rfl
    obtain ⟨f, g, h⟩ := ei_get h rfl (y0_f Y).2.2.2
    obtain ⟨f, g, h⟩ := ei_p h rfl rfl rfl rfl
    obtain ⟨vp, f, g, h⟩ := ei_ald h rfl (fun vp => y0_p Y (by have := vp_lt vp; have e : σ.2.1 18 0 = 3 := (y0_l Y).2; rw [e] at this; exact this))
    have e := ei_aret h rfl
    have e18 : σ.2.1 18 0 = 3 := (y0_l Y).2
    have vp := vp_lt vp
    have vp : x.toNatClampNeg < σ.2.1 18 0 := vp
    exact ⟨x.toNatClampNeg, by omega, congrArg Prod.fst e⟩
  · exact Or.inl (e13 f h)
/-- a paper without its mark wakes none -/
theorem w112 {σ σ' : mS} {p : Nat} {w : mX} (ht : m_get σ 8 p 7 = .inl 0) (h : ev_run sm_all 112 [rf 8 p] σ w σ') : w = .inl (some (.inl 0)) := by
  obtain ⟨F, f, h⟩ := ei_go h z112_at
  obtain ⟨f, g, h⟩ := ei_p h rfl rfl rfl rfl
  obtain ⟨f, g, h⟩ := ei_get h rfl ht
  rcases ei_c h rfl rfl rfl with ⟨hP, f, g, h⟩ | ⟨hP, f, g, h⟩
  · skip
    obtain ⟨f, g, h⟩ := ei_p h rfl rfl rfl rfl
    exact congrArg Prod.fst (ei_iret h rfl)
  · exact absurd rfl hP
/-- none is woken where no paper is marked -/
theorem w16 {σ σ' : mS} {w : mX} (Y : hy (fun _ => 0) σ) (ht : ∀ i, i < 3 → m_get σ 8 i 7 = .inl 0) (h : ev_run sm_all 16 [rf 0 0, rf 2 0] σ w σ') : w = .inl (some (.inr (.inr none))) ∨ ∃ b, w = .inr b := by
  obtain ⟨F, f, h⟩ := ei_go h z16_at
  have e77 : ∀ f L, EV F f 16 z16 77 L [] σ (w, σ') → w = .inl (some (.inr (.inr none))) := by
    intro f L h
    obtain ⟨f, g, h⟩ := ei_p h rfl rfl rfl rfl
    exact congrArg Prod.fst (ei_aret h rfl)
  have loop : ∀ N f, f < N → ∀ (i : Int32) l3 l4, EV F f 16 z16 2 [some (rf 0 0), some (rf 2 0), some (.inl i), l3, l4] [] σ (w, σ') → w = .inl (some (.inr (.inr none))) ∨ ∃ b, w = .inr b := by
    intro N
    induction N with
    | zero => intro f hf; omega
    | succ N IH =>
      intro f hf i l3 l4 h
      obtain ⟨f, g, h⟩ := ei_p h rfl rfl rfl rfl
      have hf : f < N := by omega
      obtain ⟨f, g, h⟩ := ei_p h rfl rfl rfl rfl
      have hf := Nat.lt_trans g hf
      obtain ⟨y, hy⟩ := gt_i (c := 0) (k := 1) rfl σ 0
      obtain ⟨f, g, h⟩ := ei_get h rfl hy
      have hf := Nat.lt_trans g hf
      rcases ei_c h rfl rfl rfl with ⟨hP, f, g, h⟩ | ⟨hP, f, g, h⟩
      · exact Or.inl (e77 _ _ h)
      have hf := Nat.lt_trans g hf
      obtain ⟨f, g, h⟩ := ei_p h rfl rfl rfl rfl
      have hf := Nat.lt_trans g hf
      obtain ⟨f, g, h⟩ := ei_p h rfl rfl rfl rfl
      have hf := Nat.lt_trans g hf
      obtain ⟨f, g, h⟩ := ei_get h rfl (y0_f Y).1
      have hf := Nat.lt_trans g hf
      obtain ⟨f, g, h⟩ := ei_len h rfl (y0_l Y).1 (by decide)
      have hf := Nat.lt_trans g hf
      rcases ei_c h rfl rfl rfl with ⟨hP, f, g, h⟩ | ⟨hP, f, g, h⟩
      · exact Or.inl (e77 _ _ h)
      have hf := Nat.lt_trans g hf
      obtain ⟨f, g, h⟩ := ei_p h rfl rfl rfl rfl
      have hf := Nat.lt_trans g hf
      obtain ⟨f, g, h⟩ := ei_get h rfl (y0_f Y).1
      have hf := Nat.lt_trans g hf
      obtain ⟨f, g, h⟩ := ei_p h rfl rfl rfl rfl
      have hf := Nat.lt_trans g hf
      obtain ⟨vp, f, g, h⟩ := ei_ald h rfl (fun vp => (y0_o Y (by have := vp_lt vp; have e : σ.2.1 17 0 = 120 := (y0_l Y).1; rw [e] at this; exact this)).1)
      have hf := Nat.lt_trans g hf
      obtain ⟨f, g, h⟩ := ei_p h rfl rfl rfl rfl
      have hf := Nat.lt_trans g hf
      obtain ⟨f, g, h⟩ := ei_p h rfl rfl rfl rfl
      have hf := Nat.lt_trans g hf
      obtain ⟨f, g, h⟩ := ei_p h rfl rfl rfl rfl
      have hf := Nat.lt_trans g hf
      obtain ⟨y2, hy2⟩ := gt_i (c := 7) (k := 2) rfl σ i.toNatClampNeg
      obtain ⟨f, g, h⟩ := ei_get h rfl hy2
      have hf := Nat.lt_trans g hf
      obtain ⟨x, τ, r24, ⟨v, rfl, f, g, h⟩ | ⟨b, rfl, hq⟩⟩ := ei_v (as := [.inl y2]) h rfl rfl rfl
      rotate_left
      · exact Or.inr ⟨b, congrArg Prod.fst hq⟩
      have hf := Nat.lt_trans g hf
      have eτ := ro_run (j := 24) rfl r24
      subst eτ
      have e71 : ∀ f, f < N → ∀ l3 l4, EV F f 16 z16 71 [some (rf 0 0), some (rf 2 0), some (.inl i), l3, l4] [] τ (w, σ') → w = .inl (some (.inr (.inr none))) ∨ ∃ b, w = .inr b := by
        intro f hf l3 l4 h
        obtain ⟨f, g, h⟩ := ei_p h rfl rfl rfl rfl
        have hf := Nat.lt_trans g hf
        obtain ⟨f, g, h⟩ := ei_p h rfl rfl rfl rfl
        have hf := Nat.lt_trans g hf
        exact IH f hf _ l3 l4 h
      obtain ⟨vr, rfl⟩ : ∃ vr, v = some (.inr (.inr vr)) := by
        rcases w24 Y r24 with e | ⟨p, -, e⟩
        · cases e; exact ⟨none, rfl⟩
        · cases e; exact ⟨some (8, p), rfl⟩
      obtain ⟨f, g, h⟩ := ei_p h rfl rfl rfl rfl
      have hf := Nat.lt_trans g hf
      obtain ⟨f, g, h⟩ := ei_p h rfl rfl rfl rfl
      have hf := Nat.lt_trans g hf
      obtain ⟨y9, hy9⟩ := gt_i (c := 7) (k := 9) rfl τ i.toNatClampNeg
      obtain ⟨f, g, h⟩ := ei_get h rfl hy9
      have hf := Nat.lt_trans g hf
      obtain ⟨f, g, h⟩ := ei_p h rfl rfl rfl rfl
      have hf := Nat.lt_trans g hf
      rcases ei_c h rfl rfl rfl with ⟨hP, f, g, h⟩ | ⟨hP, f, g, h⟩
      · exact e71 f (Nat.lt_trans g hf) _ _ h
      have hf := Nat.lt_trans g hf
      obtain ⟨f, g, h⟩ := ei_p h rfl rfl rfl rfl
      have hf := Nat.lt_trans g hf
      rcases ei_c h rfl rfl rfl with ⟨hP, f, g, h⟩ | ⟨hP, f, g, h⟩
      · exact e71 f (Nat.lt_trans g hf) _ _ h
      have hf := Nat.lt_trans g hf
      rcases w24 Y r24 with e | ⟨p, hp, e⟩
      · cases e; exact absurd rfl hP
      cases e
      obtain ⟨f, g, h⟩ := ei_p h rfl rfl rfl rfl
      have hf := Nat.lt_trans g hf
      obtain ⟨x, τ, r112, ⟨v2, rfl, f, g, h⟩ | ⟨b, rfl, hq⟩⟩ := ei_v (as := []) h rfl rfl rfl
      rotate_left
      · exact Or.inr ⟨b, congrArg Prod.fst hq⟩
      have hf := Nat.lt_trans g hf
      have eτ := ro_run (j := 112) rfl r112
      subst eτ
      have e := w112 (ht p hp) r112
      cases e
      rcases ei_c h rfl rfl rfl with ⟨hP, f, g, h⟩ | ⟨hP, f, g, h⟩
      · exact e71 f (Nat.lt_trans g hf) _ _ h
      exact absurd rfl hP
  obtain ⟨f, g, h⟩ := ei_p h rfl rfl rfl rfl
  obtain ⟨f, g, h⟩ := ei_p h rfl rfl rfl rfl
  exact loop (f + 1) f (Nat.lt_succ_self f) _ _ _ h
def tz (σ : mS) : Prop := ∀ i, i < 3 → m_get σ 8 i 7 = .inl 0
def eqS (σ σ' : mS) : Prop := σ'.1 = σ.1 ∧ σ'.2.1 = σ.2.1 ∧ ∀ c i k, m_get σ' c i k = m_get σ c i k
theorem eqS_trz {σ σ' : mS} (h : tz σ) (e1 : σ'.1 = σ.1) (e2 : σ'.2.1 = σ.2.1) (hz : tz σ') (he : ∀ c p k, ¬ (c = 8 ∧ p < 3 ∧ k = 7) → m_get σ' c p k = m_get σ c p k) : eqS σ σ' := ⟨e1, e2, fun c p k => by
  by_cases z : c = 8 ∧ p < 3 ∧ k = 7
  · obtain ⟨rfl, z2, rfl⟩ := z
    rw [hz p z2, h p z2]
  · exact he c p k z⟩
/-- the marks are taken away -/
theorem w69t {F : Nat} {σ' : mS} {w : mX} : ∀ (m i f : Nat) l4 (τ : mS), i + m = 3 → hy (fun _ => 0) τ → EV F f 69 z69 69 [some (rf 4 0), some (rf 18 0), some (.inl (Int32.ofNat 3)), some (.inl (Int32.ofNat i)), l4] [] τ (w, σ') → w = .inl none ∧ (σ'.1 = τ.1 ∧ σ'.2.1 = τ.2.1) ∧ (∀ p, i ≤ p → p < 3 → m_get σ' 8 p 7 = .inl 0) ∧ ∀ c p k, ¬ (c = 8 ∧ (i ≤ p ∧ p < 3) ∧ k = 7) → m_get σ' c p k = m_get τ c p k
  | 0, i, f, l4, τ, hm, Y, h => by
    have e : i = 3 := by omega
    subst e
    obtain ⟨f, g, h⟩ := ei_p h rfl rfl rfl rfl
    obtain ⟨f, g, h⟩ := ei_p h rfl rfl rfl rfl
    rcases ei_c h rfl rfl rfl with ⟨hP, f, g, h⟩ | ⟨hP, f, g, h⟩
    · have e := ei_ret h rfl
      cases e
      exact ⟨rfl, ⟨rfl, rfl⟩, fun p h1 h2 => by omega, fun c p k _ => rfl⟩
    · exact absurd ((i32_ge 3 (by decide) 3 (by decide)).mpr (Nat.le_refl _)) hP
  | m + 1, i, f, l4, τ, hm, Y, h => by
    have hi : i < 3 := by omega
    obtain ⟨f, g, h⟩ := ei_p h rfl rfl rfl rfl
    obtain ⟨f, g, h⟩ := ei_p h rfl rfl rfl rfl
    rcases ei_c h rfl rfl rfl with ⟨hP, f, g, h⟩ | ⟨hP, f, g, h⟩
    · have := (i32_ge i (by omega) 3 (by decide)).mp hP; omega
    obtain ⟨f, g, h⟩ := ei_p h rfl rfl rfl rfl
    obtain ⟨f, g, h⟩ := ei_p h rfl rfl rfl rfl
    obtain ⟨vp, f, g, h⟩ := ei_ald h rfl (v := rf 8 i) (fun vp => by rw [i32_nat i (by omega)]; exact y0_p Y hi)
    obtain ⟨f, g, h⟩ := ei_p h rfl rfl rfl rfl
    obtain ⟨f, g, h⟩ := ei_p h rfl rfl rfl rfl
    obtain ⟨f, g, h⟩ := ei_p h rfl rfl rfl rfl
    obtain ⟨ht, f, g, h⟩ := ei_put h rfl
    obtain ⟨f, g, h⟩ := ei_p h rfl rfl rfl rfl
    obtain ⟨f, g, h⟩ := ei_p h rfl rfl rfl rfl
    have h : EV F f 69 z69 69 [some (rf 4 0), some (rf 18 0), some (.inl (Int32.ofNat 3)), some (.inl (Int32.ofNat i + Int32.ofInt 1)), some (rf 8 i)] [] (m_set τ 8 i 7 (.inl (Int32.ofInt 0))) (w, σ') := h
    rw [i32_inc i (by omega)] at h
    obtain ⟨k1, ⟨k2, k3⟩, k4, k5⟩ := w69t m (i + 1) f _ _ (by omega) (hy_K Y (eqK_set rfl)) h
    refine ⟨k1, ⟨k2.trans (m_set_1 ..), k3.trans (m_set_2 ..)⟩, fun p h1 h2 => ?_, fun c p k hn => ?_⟩
    · by_cases e : p = i
      · subst e
        rw [k5 8 p 7 (fun z => by omega), m_get_eq _ ht]
        rfl
      · exact k4 p (by omega) h2
    · rw [k5 c p k (fun z => hn ⟨z.1, by omega, z.2.2⟩), m_get_ne _ _ (fun z => hn ⟨z.1, by omega, z.2.2⟩)]
theorem w69h {F : Nat} {σ' : mS} {w : mX} : ∀ N f, f < N → ∀ (i : Int32) l2 l3 l4 (τ : mS), hy (fun _ => 0) τ → EV F f 69 z69 2 [some (rf 4 0), some (.inl i), l2, l3, l4] [] τ (w, σ') → (∃ b, w = .inr b) ∨ ∃ f l1 l2 l3 l4 τ1, hy (fun _ => 0) τ1 ∧ (tz τ → τ1 = τ) ∧ EV F f 69 z69 56 [some (rf 4 0), l1, l2, l3, l4] [] τ1 (w, σ') := by
  intro N
  induction N with
  | zero => intro f hf; omega
  | succ N IH =>
    intro f hf i l2 l3 l4 τ Y h
    obtain ⟨f, g, h⟩ := ei_p h rfl rfl rfl rfl
    have hf : f < N := by omega
    obtain ⟨f, g, h⟩ := ei_p h rfl rfl rfl rfl
    have hf := Nat.lt_trans g hf
    rcases ei_c h rfl rfl rfl with ⟨hP, f, g, h⟩ | ⟨hP, f, g, h⟩
    · exact Or.inr ⟨f, _, _, _, _, τ, Y, fun _ => rfl, h⟩
    have hf := Nat.lt_trans g hf
    obtain ⟨f, g, h⟩ := ei_p h rfl rfl rfl rfl
    have hf := Nat.lt_trans g hf
    obtain ⟨f, g, h⟩ := ei_get h rfl (y0_f Y).2.1
    have hf := Nat.lt_trans g hf
    obtain ⟨f, g, h⟩ := ei_p h rfl rfl rfl rfl
    have hf := Nat.lt_trans g hf
    obtain ⟨f, g, h⟩ := ei_get h rfl (y0_f Y).2.2.1
    have hf := Nat.lt_trans g hf
    obtain ⟨x, υ, r16, ⟨v, rfl, f, g, h⟩ | ⟨b, rfl, hq⟩⟩ := ei_v (as := [rf 2 0]) h rfl rfl rfl
    rotate_left
    · exact Or.inl ⟨b, congrArg Prod.fst hq⟩
    have hf := Nat.lt_trans g hf
    have eυ := ro_run (j := 16) rfl r16
    subst eυ
    obtain ⟨vr, rfl⟩ : ∃ vr, v = some (.inr (.inr vr)) := by
      have t := ev_ty z16_at r16
      rcases v with _ | x | x | x
      · cases t
      · rcases t with t | ⟨t, -⟩ <;> cases t
      · cases t
      · exact ⟨x, rfl⟩
    obtain ⟨f, g, h⟩ := ei_p h rfl rfl rfl rfl
    have hf := Nat.lt_trans g hf
    obtain ⟨f, g, h⟩ := ei_p h rfl rfl rfl rfl
    have hf := Nat.lt_trans g hf
    rcases vr with _ | p
    · rcases ei_c h rfl rfl rfl with ⟨hP, f, g, h⟩ | ⟨hP, f, g, h⟩
      · exact absurd rfl hP
      have hf := Nat.lt_trans g hf
      obtain ⟨f, g, h⟩ := ei_p h rfl rfl rfl rfl
      have hf := Nat.lt_trans g hf
      exact Or.inr ⟨f, _, _, _, _, υ, Y, fun _ => rfl, h⟩
    have nt : ¬ tz υ := fun t => by
      rcases w16 Y t r16 with e | ⟨b, e⟩ <;> cases e
    rcases ei_c h rfl rfl rfl with ⟨hP, f, g, h⟩ | ⟨hP, f, g, h⟩
    rotate_left
    · exact absurd (fun z => by cases z) hP
    have hf := Nat.lt_trans g hf
    obtain ⟨f, g, h⟩ := ei_p h rfl rfl rfl rfl
    have hf := Nat.lt_trans g hf
    obtain ⟨f, g, h⟩ := ei_p h rfl rfl rfl rfl
    have hf := Nat.lt_trans g hf
    obtain ⟨t1, f, g, h⟩ := ei_put h rfl
    have hf := Nat.lt_trans g hf
    have Y1 := hy_K Y (eqK_set (σ := υ) (c := 7) (j := p.2) (k := 9) (x := .inl (Int32.ofInt 3)) rfl)
    obtain ⟨f, g, h⟩ := ei_p h rfl rfl rfl rfl
    have hf := Nat.lt_trans g hf
    obtain ⟨f, g, h⟩ := ei_p h rfl rfl rfl rfl
    have hf := Nat.lt_trans g hf
    obtain ⟨f, g, h⟩ := ei_get h rfl (y0_f Y1).2.2.1
    have hf := Nat.lt_trans g hf
    obtain ⟨y7, hy7⟩ := gt_i (c := 2) (k := 7) rfl (m_set υ 7 p.2 9 (.inl (Int32.ofInt 3))) 0
    obtain ⟨f, g, h⟩ := ei_get h rfl hy7
    have hf := Nat.lt_trans g hf
    obtain ⟨t2, f, g, h⟩ := ei_put h rfl
    have hf := Nat.lt_trans g hf
    have Y2 := hy_K Y1 (eqK_set (c := 7) (j := p.2) (k := 10) (x := .inl y7) rfl)
    obtain ⟨f, g, h⟩ := ei_p h rfl rfl rfl rfl
    have hf := Nat.lt_trans g hf
    obtain ⟨f, g, h⟩ := ei_p h rfl rfl rfl rfl
    have hf := Nat.lt_trans g hf
    obtain ⟨f, g, h⟩ := ei_p h rfl rfl rfl rfl
    have hf := Nat.lt_trans g hf
    obtain ⟨x, υ2, r66, ⟨v2, rfl, f, g, h⟩ | ⟨b, rfl, hq⟩⟩ := ei_v (as := [.inl (Int32.ofInt 1), .inr (.inr (some p))]) h rfl rfl rfl
    rotate_left
    · exact Or.inl ⟨b, congrArg Prod.fst hq⟩
    have hf := Nat.lt_trans g hf
    have Y3 := hy_run (j := 66) (by decide) r66 Y2
    have t := ev_ty z66_at r66
    rcases v2 with _ | x | x | x
    rotate_left
    · rcases t with t | ⟨t, -⟩ <;> cases t
    · cases t
    · cases t
    obtain ⟨f, g, h⟩ := ei_p h rfl rfl rfl rfl
    have hf := Nat.lt_trans g hf
    obtain ⟨f, g, h⟩ := ei_p h rfl rfl rfl rfl
    have hf := Nat.lt_trans g hf
    rcases IH f hf _ _ _ _ υ2 Y3 h with e | ⟨f, m1, m2, m3, m4, τ1, k1, k2, k3⟩
    · exact Or.inl e
    · exact Or.inr ⟨f, m1, m2, m3, m4, τ1, k1, fun z => absurd z nt, k3⟩
/-- behind the waking no paper is marked; where none was marked, it changes nothing -/
theorem w69 {σ σ' : mS} {w : mX} (Y : hy (fun _ => 0) σ) (h : ev_run sm_all 69 [rf 4 0] σ w σ') : (∃ b, w = .inr b) ∨ (w = .inl none ∧ tz σ' ∧ (tz σ → eqS σ σ')) := by
  obtain ⟨F, f, h⟩ := ei_go h z69_at
  obtain ⟨f, g, h⟩ := ei_p h rfl rfl rfl rfl
  obtain ⟨f, g, h⟩ := ei_p h rfl rfl rfl rfl
  rcases w69h (f + 1) f (Nat.lt_succ_self f) _ _ _ _ _ Y h with e | ⟨f, l1, l2, l3, l4, τ, Y1, k2, h⟩
  · exact Or.inl e
  refine Or.inr ?_
  obtain ⟨f, g, h⟩ := ei_p h rfl rfl rfl rfl
  obtain ⟨f, g, h⟩ := ei_get h rfl (y0_f Y1).2.2.1
  obtain ⟨f, g, h⟩ := ei_get h rfl (y0_f Y1).2.2.2
  obtain ⟨f, g, h⟩ := ei_p h rfl rfl rfl rfl
  obtain ⟨f, g, h⟩ := ei_p h rfl rfl rfl rfl
  obtain ⟨f, g, h⟩ := ei_len h rfl (y0_l Y1).2 (by decide)
  obtain ⟨f, g, h⟩ := ei_p h rfl rfl rfl rfl
  obtain ⟨f, g, h⟩ := ei_p h rfl rfl rfl rfl
  obtain ⟨f, g, h⟩ := ei_p h rfl rfl rfl rfl
  obtain ⟨j1, ⟨j2, j3⟩, j4, j5⟩ := w69t 3 0 f _ τ rfl Y1 h
  refine ⟨j1, fun p hp => j4 p (Nat.zero_le _) hp, fun t => ?_⟩
  have e := k2 t
  subst e
  exact eqS_trz t j2 j3 (fun p hp => j4 p (Nat.zero_le _) hp) (fun c p k hn => j5 c p k (fun z => hn ⟨z.1, z.2.1.2, z.2.2⟩))
/-- an order is added, or nothing is done -/
theorem w4 {σ σ' : mS} {a b c d e : Int32} {w : mX} (Y : hy (fun _ => 0) σ) (h : ev_run sm_all 4 [rf 0 0, .inl a, .inl b, .inl c, .inl d, .inl e] σ w σ') : (w = .inl (some (.inr (.inr none))) ∧ σ' = σ) ∨ ∃ k, k < 120 ∧ w = .inl (some (rf 7 k)) := by
  obtain ⟨F, f, h⟩ := ei_go h z4_at
  obtain ⟨y, hy⟩ := gt_i (c := 0) (k := 1) rfl σ 0
  have e19 : ∀ f, EV F f 4 z4 19 [some (rf 0 0), some (.inl a), some (.inl b), some (.inl c), some (.inl d), some (.inl e), none] [] σ (w, σ') → w = .inl (some (.inr (.inr none))) ∧ σ' = σ := by
    intro f h
    obtain ⟨f, g, h⟩ := ei_p h rfl rfl rfl rfl
    have e := ei_aret h rfl
    cases e
    exact ⟨rfl, rfl⟩
  obtain ⟨f, g, h⟩ := ei_p h rfl rfl rfl rfl
  obtain ⟨f, g, h⟩ := ei_get h rfl hy
  rcases ei_c h rfl rfl rfl with ⟨hP, f, g, h⟩ | ⟨hP, f, g, h⟩
  · exact Or.inl (e19 f h)
  obtain ⟨f, g, h⟩ := ei_p h rfl rfl rfl rfl
  obtain ⟨f, g, h⟩ := ei_get h rfl hy
  obtain ⟨f, g, h⟩ := ei_p h rfl rfl rfl rfl
  obtain ⟨f, g, h⟩ := ei_get h rfl (y0_f Y).1
  obtain ⟨f, g, h⟩ := ei_len h rfl (y0_l Y).1 (by decide)
  rcases ei_c h rfl rfl rfl with ⟨hP, f, g, h⟩ | ⟨hP, f, g, h⟩
  rotate_left
  · exact Or.inl (e19 f h)
  obtain ⟨f, g, h⟩ := ei_p h rfl rfl rfl rfl
  obtain ⟨f, g, h⟩ := ei_get h rfl (y0_f Y).1
  obtain ⟨f, g, h⟩ := ei_p h rfl rfl rfl rfl
  obtain ⟨f, g, h⟩ := ei_get h rfl hy
  obtain ⟨vp, f, g, h⟩ := ei_ald h rfl (fun vp => (y0_o Y (by have := vp_lt vp; have e : σ.2.1 17 0 = 120 := (y0_l Y).1; rw [e] at this; exact this)).1)
  have vl := vp_lt vp
  have e17 : σ.2.1 17 0 = 120 := (y0_l Y).1
  have vl : y.toNatClampNeg < σ.2.1 17 0 := vl
  rw [e17] at vl
  refine Or.inr ⟨y.toNatClampNeg, vl, ?_⟩
  obtain ⟨f, g, h⟩ := ei_p h rfl rfl rfl rfl
  obtain ⟨f, g, h⟩ := ei_p h rfl rfl rfl rfl
  obtain ⟨f, g, h⟩ := ei_p h rfl rfl rfl rfl
  obtain ⟨f, g, h⟩ := ei_get h rfl hy
  obtain ⟨f, g, h⟩ := ei_p h rfl rfl rfl rfl
  obtain ⟨f, g, h⟩ := ei_p h rfl rfl rfl rfl
  obtain ⟨t0, f, g, h⟩ := ei_put h rfl
  obtain ⟨f, g, h⟩ := ei_p h rfl rfl rfl rfl
  obtain ⟨f, g, h⟩ := ei_p h rfl rfl rfl rfl
  obtain ⟨t1, f, g, h⟩ := ei_put h rfl
  obtain ⟨f, g, h⟩ := ei_p h rfl rfl rfl rfl
  obtain ⟨f, g, h⟩ := ei_p h rfl rfl rfl rfl
  obtain ⟨t2, f, g, h⟩ := ei_put h rfl
  obtain ⟨f, g, h⟩ := ei_p h rfl rfl rfl rfl
  obtain ⟨f, g, h⟩ := ei_p h rfl rfl rfl rfl
  obtain ⟨t3, f, g, h⟩ := ei_put h rfl
  obtain ⟨f, g, h⟩ := ei_p h rfl rfl rfl rfl
  obtain ⟨f, g, h⟩ := ei_p h rfl rfl rfl rfl
  obtain ⟨t4, f, g, h⟩ := ei_put h rfl
  obtain ⟨f, g, h⟩ := ei_p h rfl rfl rfl rfl
  obtain ⟨f, g, h⟩ := ei_p h rfl rfl rfl rfl
  obtain ⟨t5, f, g, h⟩ := ei_put h rfl
  obtain ⟨f, g, h⟩ := ei_p h rfl rfl rfl rfl
  obtain ⟨f, g, h⟩ := ei_p h rfl rfl rfl rfl
  obtain ⟨t6, f, g, h⟩ := ei_put h rfl
  obtain ⟨f, g, h⟩ := ei_p h rfl rfl rfl rfl
  obtain ⟨f, g, h⟩ := ei_p h rfl rfl rfl rfl
  obtain ⟨t7, f, g, h⟩ := ei_put h rfl
  obtain ⟨f, g, h⟩ := ei_p h rfl rfl rfl rfl
  obtain ⟨f, g, h⟩ := ei_p h rfl rfl rfl rfl
  obtain ⟨t8, f, g, h⟩ := ei_put h rfl
  obtain ⟨f, g, h⟩ := ei_p h rfl rfl rfl rfl
  obtain ⟨f, g, h⟩ := ei_p h rfl rfl rfl rfl
  obtain ⟨t9, f, g, h⟩ := ei_put h rfl
  obtain ⟨f, g, h⟩ := ei_p h rfl rfl rfl rfl
  obtain ⟨f, g, h⟩ := ei_p h rfl rfl rfl rfl
  obtain ⟨t10, f, g, h⟩ := ei_put h rfl
  obtain ⟨f, g, h⟩ := ei_p h rfl rfl rfl rfl
  obtain ⟨f, g, h⟩ := ei_p h rfl rfl rfl rfl
  obtain ⟨t11, f, g, h⟩ := ei_put h rfl
  obtain ⟨f, g, h⟩ := ei_p h rfl rfl rfl rfl
  obtain ⟨f, g, h⟩ := ei_p h rfl rfl rfl rfl
  obtain ⟨t12, f, g, h⟩ := ei_put h rfl
  obtain ⟨f, g, h⟩ := ei_p h rfl rfl rfl rfl
  exact congrArg Prod.fst (ei_aret h rfl)
/-- an order comes: refused, nothing is changed; else its number is given back -/
theorem w64 {σ σ' : mS} {i : Nat} {w : mX} (Y : hy (fun _ => 0) σ) (h : ev_run sm_all 64 [rf 4 0, rf 1 i] σ w σ') : (w = .inl (some (.inl (Int32.ofInt (-1)))) ∧ σ' = σ) ∨ (∃ k, k < 120 ∧ w = .inl (some (.inl (Int32.ofNat k)))) ∨ ∃ b, w = .inr b := by
  obtain ⟨F, f, h⟩ := ei_go h z64_at
  obtain ⟨ya, ha⟩ := gt_i (c := 1) (k := 1) rfl σ i
  obtain ⟨yb, hb⟩ := gt_i (c := 1) (k := 2) rfl σ i
  obtain ⟨yc, hc⟩ := gt_i (c := 1) (k := 3) rfl σ i
  obtain ⟨yd, hd⟩ := gt_i (c := 1) (k := 4) rfl σ i
  obtain ⟨ye, he⟩ := gt_i (c := 1) (k := 5) rfl σ i
  obtain ⟨yg, hg⟩ := gt_i (c := 1) (k := 7) rfl σ i
  have e86 : ∀ f l8, EV F f 64 z64 86 [some (rf 4 0), some (rf 1 i), some (.inl ya), some (.inl yb), some (.inl yc), some (.inl yd), some (.inl ye), some (.inl yg), l8] [] σ (w, σ') → w = .inl (some (.inl (Int32.ofInt (-1)))) ∧ σ' = σ := by
    intro f l8 h
    obtain ⟨f, g, h⟩ := ei_p h rfl rfl rfl rfl
    have e := ei_iret h rfl
    cases e
    exact ⟨rfl, rfl⟩
  have e152 : ∀ f (k : Nat) (x : Int32) (τ : mS), k < 120 → hy (fun _ => 0) τ → EV F f 64 z64 152 [some (rf 4 0), some (rf 1 i), some (.inl ya), some (.inl yb), some (.inl yc), some (.inl yd), some (.inl ye), some (.inl yg), some (rf 7 k)] [.inl x, rf 7 k, rf 4 0] τ (w, σ') → (∃ k, k < 120 ∧ w = .inl (some (.inl (Int32.ofNat k)))) ∨ ∃ b, w = .inr b := by
    intro f k x τ hk Y h
    obtain ⟨x, υ, r66, ⟨v, rfl, f, g, h⟩ | ⟨b, rfl, hq⟩⟩ := ei_v (as := [.inl x, rf 7 k]) h rfl rfl rfl
    rotate_left
    · exact Or.inr ⟨b, congrArg Prod.fst hq⟩
    have Y3 := hy_run (j := 66) (by decide) r66 Y
    have t := ev_ty z66_at r66
    rcases v with _ | x | x | x
    rotate_left
    · rcases t with t | ⟨t, -⟩ <;> cases t
    · cases t
    · cases t
    obtain ⟨f, g, h⟩ := ei_p h rfl rfl rfl rfl
    obtain ⟨f, g, h⟩ := ei_get h rfl (y0_o Y3 hk).2
    exact Or.inl ⟨k, hk, congrArg Prod.fst (ei_iret h rfl)⟩
  have e88 : ∀ f l8, EV F f 64 z64 88 [some (rf 4 0), some (rf 1 i), some (.inl ya), some (.inl yb), some (.inl yc), some (.inl yd), some (.inl ye), some (.inl yg), l8] [] σ (w, σ') → (w = .inl (some (.inl (Int32.ofInt (-1)))) ∧ σ' = σ) ∨ (∃ k, k < 120 ∧ w = .inl (some (.inl (Int32.ofNat k)))) ∨ ∃ b, w = .inr b := by
    intro f l8 h
    obtain ⟨f, g, h⟩ := ei_p h rfl rfl rfl rfl
    obtain ⟨f, g, h⟩ := ei_get h rfl (y0_f Y).2.1
    obtain ⟨f, g, h⟩ := ei_p h rfl rfl rfl rfl
    obtain ⟨f, g, h⟩ := ei_p h rfl rfl rfl rfl
    obtain ⟨f, g, h⟩ := ei_p h rfl rfl rfl rfl
    obtain ⟨f, g, h⟩ := ei_p h rfl rfl rfl rfl
    obtain ⟨f, g, h⟩ := ei_p h rfl rfl rfl rfl
    obtain ⟨x, τ, r4, ⟨v, rfl, f, g, h⟩ | ⟨b, rfl, hq⟩⟩ := ei_v (as := [.inl ye, .inl yd, .inl yc, .inl yb, .inl ya]) h rfl rfl rfl
    rotate_left
    · exact Or.inr (Or.inr ⟨b, congrArg Prod.fst hq⟩)
    rcases w4 Y r4 with ⟨e1, e2⟩ | ⟨k, hk, e1⟩
    · cases e1
      subst e2
      obtain ⟨f, g, h⟩ := ei_p h rfl rfl rfl rfl
      obtain ⟨f, g, h⟩ := ei_p h rfl rfl rfl rfl
      rcases ei_c h rfl rfl rfl with ⟨hP, f, g, h⟩ | ⟨hP, f, g, h⟩
      · exact absurd rfl hP
      obtain ⟨f, g, h⟩ := ei_p h rfl rfl rfl rfl
      have e := ei_iret h rfl
      cases e
      exact Or.inl ⟨rfl, rfl⟩
    cases e1
    have Y1 := hy_run (j := 4) (by decide) r4 Y
    obtain ⟨f, g, h⟩ := ei_p h rfl rfl rfl rfl
    obtain ⟨f, g, h⟩ := ei_p h rfl rfl rfl rfl
    rcases ei_c h rfl rfl rfl with ⟨hP, f, g, h⟩ | ⟨hP, f, g, h⟩
    rotate_left
    · exact absurd (fun z => by cases z) hP
    obtain ⟨f, g, h⟩ := ei_p h rfl rfl rfl rfl
    obtain ⟨f, g, h⟩ := ei_p h rfl rfl rfl rfl
    obtain ⟨yf, hf6⟩ := gt_i (c := 1) (k := 6) rfl τ i
    obtain ⟨f, g, h⟩ := ei_get h rfl hf6
    obtain ⟨t1, f, g, h⟩ := ei_put h rfl
    have Y2 := hy_K Y1 (eqK_set (c := 7) (j := k) (k := 5) (x := .inl yf) rfl)
    obtain ⟨f, g, h⟩ := ei_p h rfl rfl rfl rfl
    obtain ⟨f, g, h⟩ := ei_p h rfl rfl rfl rfl
    obtain ⟨f, g, h⟩ := ei_get h rfl (y0_f Y2).2.2.1
    obtain ⟨y7, hy7⟩ := gt_i (c := 2) (k := 7) rfl (m_set τ 7 k 5 (.inl yf)) 0
    obtain ⟨f, g, h⟩ := ei_get h rfl hy7
    obtain ⟨t2, f, g, h⟩ := ei_put h rfl
    have Y3 := hy_K Y2 (eqK_set (c := 7) (j := k) (k := 10) (x := .inl y7) rfl)
    refine Or.inr ?_
    obtain ⟨f, g, h⟩ := ei_p h rfl rfl rfl rfl
    obtain ⟨f, g, h⟩ := ei_p h rfl rfl rfl rfl
    obtain ⟨f, g, h⟩ := ei_p h rfl rfl rfl rfl
    rcases ei_c h rfl rfl rfl with ⟨hP, f, g, h⟩ | ⟨hP, f, g, h⟩
    · skip
      obtain ⟨f, g, h⟩ := ei_p h rfl rfl rfl rfl
      obtain ⟨f, g, h⟩ := ei_p h rfl rfl rfl rfl
      exact e152 f k _ _ hk Y3 h
    obtain ⟨f, g, h⟩ := ei_p h rfl rfl rfl rfl
    obtain ⟨f, g, h⟩ := ei_p h rfl rfl rfl rfl
    rcases ei_c h rfl rfl rfl with ⟨hP, f, g, h⟩ | ⟨hP, f, g, h⟩
    · skip
      obtain ⟨f, g, h⟩ := ei_p h rfl rfl rfl rfl
      exact e152 f k _ _ hk Y3 h
    obtain ⟨f, g, h⟩ := ei_p h rfl rfl rfl rfl
    obtain ⟨f, g, h⟩ := ei_p h rfl rfl rfl rfl
    exact e152 f k _ _ hk Y3 h
  obtain ⟨f, g, h⟩ := ei_p h rfl rfl rfl rfl
  obtain ⟨f, g, h⟩ := ei_get h rfl ha
  obtain ⟨f, g, h⟩ := ei_p h rfl rfl rfl rfl
  obtain ⟨f, g, h⟩ := ei_p h rfl rfl rfl rfl
  obtain ⟨f, g, h⟩ := ei_get h rfl hb
  obtain ⟨f, g, h⟩ := ei_p h rfl rfl rfl rfl
  obtain ⟨f, g, h⟩ := ei_p h rfl rfl rfl rfl
  obtain ⟨f, g, h⟩ := ei_get h rfl hc
  obtain ⟨f, g, h⟩ := ei_p h rfl rfl rfl rfl
  obtain ⟨f, g, h⟩ := ei_p h rfl rfl rfl rfl
  obtain ⟨f, g, h⟩ := ei_get h rfl hd
  obtain ⟨f, g, h⟩ := ei_p h rfl rfl rfl rfl
  obtain ⟨f, g, h⟩ := ei_p h rfl rfl rfl rfl
  obtain ⟨f, g, h⟩ := ei_get h rfl he
  obtain ⟨f, g, h⟩ := ei_p h rfl rfl rfl rfl
  obtain ⟨f, g, h⟩ := ei_p h rfl rfl rfl rfl
  obtain ⟨f, g, h⟩ := ei_get h rfl hg
  obtain ⟨f, g, h⟩ := ei_p h rfl rfl rfl rfl
  obtain ⟨f, g, h⟩ := ei_p h rfl rfl rfl rfl
  obtain ⟨f, g, h⟩ := ei_get h rfl (y0_f Y).2.2.1
  obtain ⟨f, g, h⟩ := ei_p h rfl rfl rfl rfl
  obtain ⟨x, τ, r27, ⟨v, rfl, f, g, h⟩ | ⟨b, rfl, hq⟩⟩ := ei_v (as := [.inl yb]) h rfl rfl rfl
  rotate_left
  · exact Or.inr (Or.inr ⟨b, congrArg Prod.fst hq⟩)
  have eτ := ro_run (j := 27) rfl r27
  subst eτ
  have t := ev_ty z27_at r27
  rcases v with _ | x | x | x
  · cases t
  rotate_left
  · cases t
  · cases t
  rcases ei_c h rfl rfl rfl with ⟨hP, f, g, h⟩ | ⟨hP, f, g, h⟩
  · exact e88 f _ h
  obtain ⟨f, g, h⟩ := ei_p h rfl rfl rfl rfl
  obtain ⟨f, g, h⟩ := ei_get h rfl (y0_f Y).2.1
  obtain ⟨f, g, h⟩ := ei_p h rfl rfl rfl rfl
  obtain ⟨f, g, h⟩ := ei_p h rfl rfl rfl rfl
  obtain ⟨f, g, h⟩ := ei_p h rfl rfl rfl rfl
  obtain ⟨f, g, h⟩ := ei_p h rfl rfl rfl rfl
  obtain ⟨f, g, h⟩ := ei_p h rfl rfl rfl rfl
  obtain ⟨f, g, h⟩ := ei_p h rfl rfl rfl rfl
  obtain ⟨x8, υ, r8, ⟨v, rfl, f, g, h⟩ | ⟨b, rfl, hq⟩⟩ := ei_v (as := [.inl ya, .inl yd, .inl (Int32.ofInt 1 - yc), .inl yb]) h rfl rfl rfl
  rotate_left
  · exact Or.inr (Or.inr ⟨b, congrArg Prod.fst hq⟩)
  have eτ := ro_run (j := 8) rfl r8
  subst eτ
  have t := ev_ty z8_at r8
  rcases v with _ | x8 | x8 | x8
  · cases t
  rotate_left
  · cases t
  · cases t
  have e75 : ∀ f, EV F f 64 z64 75 [some (rf 4 0), some (rf 1 i), some (.inl ya), some (.inl yb), some (.inl yc), some (.inl yd), some (.inl ye), some (.inl yg), some (.inl x8)] [] υ (w, σ') → (w = .inl (some (.inl (Int32.ofInt (-1)))) ∧ σ' = υ) ∨ (∃ k, k < 120 ∧ w = .inl (some (.inl (Int32.ofNat k)))) ∨ ∃ b, w = .inr b := by
    intro f h
    obtain ⟨f, g, h⟩ := ei_p h rfl rfl rfl rfl
    obtain ⟨f, g, h⟩ := ei_p h rfl rfl rfl rfl
    rcases ei_c h rfl rfl rfl with ⟨hP, f, g, h⟩ | ⟨hP, f, g, h⟩
    · exact e88 f _ h
    obtain ⟨f, g, h⟩ := ei_p h rfl rfl rfl rfl
    rcases ei_c h rfl rfl rfl with ⟨hP, f, g, h⟩ | ⟨hP, f, g, h⟩
    · exact e88 f _ h
    exact Or.inl (e86 f _ h)
  obtain ⟨f, g, h⟩ := ei_p h rfl rfl rfl rfl
  obtain ⟨f, g, h⟩ := ei_p h rfl rfl rfl rfl
  obtain ⟨f, g, h⟩ := ei_p h rfl rfl rfl rfl
  rcases ei_c h rfl rfl rfl with ⟨hP, f, g, h⟩ | ⟨hP, f, g, h⟩
  · exact e75 f h
  obtain ⟨f, g, h⟩ := ei_p h rfl rfl rfl rfl
  obtain ⟨f, g, h⟩ := ei_p h rfl rfl rfl rfl
  rcases ei_c h rfl rfl rfl with ⟨hP, f, g, h⟩ | ⟨hP, f, g, h⟩
  · exact Or.inl (e86 f _ h)
  exact e75 f h
/-- an order that is refused, performed: nothing is changed -/
theorem i64_m1 : ∀ k, k < 120 → ¬ (Int32.ofNat k).toInt64 = Int64.ofInt (-1) := by decide +kernel
theorem w61r {σ σ' : mS} {i : Nat} (Y : hy (fun _ => 0) σ) (ht : tz σ) (h0 : m_get σ 1 i 0 = .inl (Int32.ofInt 2)) (h : ev_run sm_all 61 [rf 4 0, rf 1 i] σ (.inl (some (.inr (.inl (Int64.ofInt (-1)))))) σ') : eqS σ σ' := by
  obtain ⟨F, f, h⟩ := ei_go h z61_at
  obtain ⟨f, g, h⟩ := ei_p h rfl rfl rfl rfl
  obtain ⟨f, g, h⟩ := ei_get h rfl h0
  obtain ⟨f, g, h⟩ := ei_p h rfl rfl rfl rfl
  obtain ⟨f, g, h⟩ := ei_p h rfl rfl rfl rfl
  obtain ⟨f, g, h⟩ := ei_p h rfl rfl rfl rfl
  obtain ⟨x, τ, r64, ⟨v, rfl, f, g, h⟩ | ⟨b, rfl, hq⟩⟩ := ei_v (as := [rf 1 i]) h rfl rfl rfl
  rotate_left
  · cases hq
  have key : ∀ y : Int32, v = some (.inl y) → y.toInt64 = Int64.ofInt (-1) ∧ ∃ υ, ev_run sm_all 69 [rf 4 0] τ (.inl none) υ ∧ υ = σ' := by
    intro y e
    cases e
    obtain ⟨f, g, h⟩ := ei_p h rfl rfl rfl rfl
    obtain ⟨f, g, h⟩ := ei_p h rfl rfl rfl rfl
    obtain ⟨f, g, h⟩ := ei_p h rfl rfl rfl rfl
    obtain ⟨f, g, h⟩ := ei_p h rfl rfl rfl rfl
    obtain ⟨x, υ, r69, ⟨v2, rfl, f, g, h⟩ | ⟨b, rfl, hq⟩⟩ := ei_v (as := []) h rfl rfl rfl
    rotate_left
    · cases hq
    have t := ev_ty z69_at r69
    rcases v2 with _ | x | x | x
    rotate_left
    · rcases t with t | ⟨t, -⟩ <;> cases t
    · cases t
    · cases t
    obtain ⟨f, g, h⟩ := ei_p h rfl rfl rfl rfl
    have e := ei_lret h rfl
    have e1 := congrArg Prod.fst e
    have e2 := congrArg Prod.snd e
    have e3 := Sum.inl.inj (Sum.inr.inj (Option.some.inj (Sum.inl.inj e1)))
    exact ⟨e3.symm, υ, r69, e2.symm⟩
  rcases w64 Y r64 with ⟨e1, e2⟩ | ⟨k, hk, e1⟩ | ⟨b, e1⟩
  · subst e2
    obtain ⟨-, υ, r69, rfl⟩ := key _ (Sum.inl.inj e1)
    rcases w69 Y r69 with ⟨b, e⟩ | ⟨-, -, e⟩
    · cases e
    · exact e ht
  · exact absurd (key _ (Sum.inl.inj e1)).1 (i64_m1 k hk)
  · cases e1
/-- behind a performed call no paper is marked -/
theorem w61t {F f : Nat} {σ' τ : mS} {i : Nat} {w : mX} {l2 : Int64} {l3 : Option mV} (Y : hy (fun _ => 0) τ) (h : EV F f 61 z61 179 [some (rf 4 0), some (rf 1 i), some (.inr (.inl l2)), l3] [] τ (w, σ')) : (∃ b, w = .inr b) ∨ tz σ' := by
  obtain ⟨f, g, h⟩ := ei_p h rfl rfl rfl rfl
  obtain ⟨x, υ, r69, ⟨v, rfl, f, g, h⟩ | ⟨b, rfl, hq⟩⟩ := ei_v (as := []) h rfl rfl rfl
  rotate_left
  · exact Or.inl ⟨b, congrArg Prod.fst hq⟩
  rcases w69 Y r69 with ⟨b, e⟩ | ⟨e, t, -⟩
  · cases e
  cases e
  obtain ⟨f, g, h⟩ := ei_p h rfl rfl rfl rfl
  have e := ei_lret h rfl
  cases e
  exact Or.inr t
theorem w61_0 {σ σ' : mS} {i : Nat} {w : mX} (Y : hy (fun _ => 0) σ) (h0 : m_get σ 1 i 0 = .inl (Int32.ofInt 0)) (h : ev_run sm_all 61 [rf 4 0, rf 1 i] σ w σ') : (∃ b, w = .inr b) ∨ tz σ' := by
  obtain ⟨F, f, h⟩ := ei_go h z61_at
  obtain ⟨f, g, h⟩ := ei_p h rfl rfl rfl rfl
  obtain ⟨f, g, h⟩ := ei_get h rfl h0
  obtain ⟨f, g, h⟩ := ei_p h rfl rfl rfl rfl
  obtain ⟨f, g, h⟩ := ei_p h rfl rfl rfl rfl
  obtain ⟨f, g, h⟩ := ei_p h rfl rfl rfl rfl
  obtain ⟨x, τ, r, ⟨v, rfl, f, g, h⟩ | ⟨b, rfl, hq⟩⟩ := ei_v (as := [rf 1 i]) h rfl rfl rfl
  rotate_left
  · exact Or.inl ⟨b, congrArg Prod.fst hq⟩
  have Y1 := hy_run (j := 63) (by decide) r Y
  have t := ev_ty z63_at r
  rcases v with _ | x | x | x
  · cases t
  · rcases t with t | ⟨t, -⟩ <;> cases t
  rotate_left
  · cases t
  obtain ⟨f, g, h⟩ := ei_p h rfl rfl rfl rfl
  exact w61t Y1 h
theorem w61_1 {σ σ' : mS} {i : Nat} {w : mX} (Y : hy (fun _ => 0) σ) (h0 : m_get σ 1 i 0 = .inl (Int32.ofInt 1)) (h : ev_run sm_all 61 [rf 4 0, rf 1 i] σ w σ') : (∃ b, w = .inr b) ∨ tz σ' := by
  obtain ⟨F, f, h⟩ := ei_go h z61_at
  obtain ⟨f, g, h⟩ := ei_p h rfl rfl rfl rfl
  obtain ⟨f, g, h⟩ := ei_get h rfl h0
  obtain ⟨f, g, h⟩ := ei_p h rfl rfl rfl rfl
  obtain ⟨f, g, h⟩ := ei_p h rfl rfl rfl rfl
  obtain ⟨f, g, h⟩ := ei_p h rfl rfl rfl rfl
  obtain ⟨x, τ, r, ⟨v, rfl, f, g, h⟩ | ⟨b, rfl, hq⟩⟩ := ei_v (as := [rf 1 i]) h rfl rfl rfl
  rotate_left
  · exact Or.inl ⟨b, congrArg Prod.fst hq⟩
  have Y1 := hy_run (j := 63) (by decide) r Y
  have t := ev_ty z63_at r
  rcases v with _ | x | x | x
  · cases t
  · rcases t with t | ⟨t, -⟩ <;> cases t
  rotate_left
  · cases t
  obtain ⟨f, g, h⟩ := ei_p h rfl rfl rfl rfl
  exact w61t Y1 h
theorem w61_2 {σ σ' : mS} {i : Nat} {w : mX} (Y : hy (fun _ => 0) σ) (h0 : m_get σ 1 i 0 = .inl (Int32.ofInt 2)) (h : ev_run sm_all 61 [rf 4 0, rf 1 i] σ w σ') : (∃ b, w = .inr b) ∨ tz σ' := by
  obtain ⟨F, f, h⟩ := ei_go h z61_at
  obtain ⟨f, g, h⟩ := ei_p h rfl rfl rfl rfl
  obtain ⟨f, g, h⟩ := ei_get h rfl h0
  obtain ⟨f, g, h⟩ := ei_p h rfl rfl rfl rfl
  obtain ⟨f, g, h⟩ := ei_p h rfl rfl rfl rfl
  obtain ⟨f, g, h⟩ := ei_p h rfl rfl rfl rfl
  obtain ⟨x, τ, r, ⟨v, rfl, f, g, h⟩ | ⟨b, rfl, hq⟩⟩ := ei_v (as := [rf 1 i]) h rfl rfl rfl
  rotate_left
  · exact Or.inl ⟨b, congrArg Prod.fst hq⟩
  have Y1 := hy_run (j := 64) (by decide) r Y
  have t := ev_ty z64_at r
  rcases v with _ | x | x | x
  · cases t
  rotate_left
  · cases t
  · cases t
  obtain ⟨f, g, h⟩ := ei_p h rfl rfl rfl rfl
  obtain ⟨f, g, h⟩ := ei_p h rfl rfl rfl rfl
  obtain ⟨f, g, h⟩ := ei_p h rfl rfl rfl rfl
  exact w61t Y1 h
theorem w61_3 {σ σ' : mS} {i : Nat} {w : mX} (Y : hy (fun _ => 0) σ) (h0 : m_get σ 1 i 0 = .inl (Int32.ofInt 3)) (h : ev_run sm_all 61 [rf 4 0, rf 1 i] σ w σ') : (∃ b, w = .inr b) ∨ tz σ' := by
  obtain ⟨F, f, h⟩ := ei_go h z61_at
  obtain ⟨f, g, h⟩ := ei_p h rfl rfl rfl rfl
  obtain ⟨f, g, h⟩ := ei_get h rfl h0
  obtain ⟨f, g, h⟩ := ei_p h rfl rfl rfl rfl
  obtain ⟨f, g, h⟩ := ei_p h rfl rfl rfl rfl
  obtain ⟨f, g, h⟩ := ei_p h rfl rfl rfl rfl
  obtain ⟨x, τ, r, ⟨v, rfl, f, g, h⟩ | ⟨b, rfl, hq⟩⟩ := ei_v (as := [rf 1 i]) h rfl rfl rfl
  rotate_left
  · exact Or.inl ⟨b, congrArg Prod.fst hq⟩
  have Y1 := hy_run (j := 65) (by decide) r Y
  have t := ev_ty z65_at r
  rcases v with _ | x | x | x
  · cases t
  rotate_left
  · cases t
  · cases t
  obtain ⟨f, g, h⟩ := ei_p h rfl rfl rfl rfl
  obtain ⟨f, g, h⟩ := ei_p h rfl rfl rfl rfl
  obtain ⟨f, g, h⟩ := ei_p h rfl rfl rfl rfl
  exact w61t Y1 h
theorem w61_4 {σ σ' : mS} {i : Nat} {w : mX} (Y : hy (fun _ => 0) σ) (h0 : m_get σ 1 i 0 = .inl (Int32.ofInt 4)) (h : ev_run sm_all 61 [rf 4 0, rf 1 i] σ w σ') : (∃ b, w = .inr b) ∨ tz σ' := by
  obtain ⟨F, f, h⟩ := ei_go h z61_at
  obtain ⟨f, g, h⟩ := ei_p h rfl rfl rfl rfl
  obtain ⟨f, g, h⟩ := ei_get h rfl h0
  obtain ⟨f, g, h⟩ := ei_p h rfl rfl rfl rfl
  obtain ⟨f, g, h⟩ := ei_p h rfl rfl rfl rfl
  obtain ⟨f, g, h⟩ := ei_p h rfl rfl rfl rfl
  obtain ⟨a1, h1⟩ := gt_i (c := 1) (k := 1) rfl σ i
  obtain ⟨f, g, h⟩ := ei_get h rfl h1
  obtain ⟨f, g, h⟩ := ei_p h rfl rfl rfl rfl
  obtain ⟨a2, h2⟩ := gt_i (c := 1) (k := 2) rfl σ i
  obtain ⟨f, g, h⟩ := ei_get h rfl h2
  obtain ⟨x, τ, r, ⟨v, rfl, f, g, h⟩ | ⟨b, rfl, hq⟩⟩ := ei_v (as := [.inl a2, .inl a1]) h rfl rfl rfl
  rotate_left
  · exact Or.inl ⟨b, congrArg Prod.fst hq⟩
  have Y1 := hy_run (j := 70) (by decide) r Y
  have t := ev_ty z70_at r
  rcases v with _ | x | x | x
  · cases t
  rotate_left
  · cases t
  · cases t
  obtain ⟨f, g, h⟩ := ei_p h rfl rfl rfl rfl
  obtain ⟨f, g, h⟩ := ei_p h rfl rfl rfl rfl
  obtain ⟨f, g, h⟩ := ei_p h rfl rfl rfl rfl
  exact w61t Y1 h
theorem w61_5 {σ σ' : mS} {i : Nat} {w : mX} (Y : hy (fun _ => 0) σ) (h0 : m_get σ 1 i 0 = .inl (Int32.ofInt 5)) (h : ev_run sm_all 61 [rf 4 0, rf 1 i] σ w σ') : (∃ b, w = .inr b) ∨ tz σ' := by
  obtain ⟨F, f, h⟩ := ei_go h z61_at
  obtain ⟨f, g, h⟩ := ei_p h rfl rfl rfl rfl
  obtain ⟨f, g, h⟩ := ei_get h rfl h0
  obtain ⟨f, g, h⟩ := ei_p h rfl rfl rfl rfl
  obtain ⟨f, g, h⟩ := ei_p h rfl rfl rfl rfl
  obtain ⟨f, g, h⟩ := ei_p h rfl rfl rfl rfl
  obtain ⟨a1, h1⟩ := gt_i (c := 1) (k := 1) rfl σ i
  obtain ⟨f, g, h⟩ := ei_get h rfl h1
  obtain ⟨x, τ, r, ⟨v, rfl, f, g, h⟩ | ⟨b, rfl, hq⟩⟩ := ei_v (as := [.inl a1]) h rfl rfl rfl
  rotate_left
  · exact Or.inl ⟨b, congrArg Prod.fst hq⟩
  have Y1 := hy_run (j := 71) (by decide) r Y
  have t := ev_ty z71_at r
  rcases v with _ | x | x | x
  · cases t
  rotate_left
  · cases t
  · cases t
  obtain ⟨f, g, h⟩ := ei_p h rfl rfl rfl rfl
  obtain ⟨f, g, h⟩ := ei_p h rfl rfl rfl rfl
  obtain ⟨f, g, h⟩ := ei_p h rfl rfl rfl rfl
  exact w61t Y1 h
theorem w61_6 {σ σ' : mS} {i : Nat} {w : mX} (Y : hy (fun _ => 0) σ) (h0 : m_get σ 1 i 0 = .inl (Int32.ofInt 6)) (h : ev_run sm_all 61 [rf 4 0, rf 1 i] σ w σ') : (∃ b, w = .inr b) ∨ tz σ' := by
  obtain ⟨F, f, h⟩ := ei_go h z61_at
  obtain ⟨f, g, h⟩ := ei_p h rfl rfl rfl rfl
  obtain ⟨f, g, h⟩ := ei_get h rfl h0
  obtain ⟨f, g, h⟩ := ei_p h rfl rfl rfl rfl
  obtain ⟨f, g, h⟩ := ei_p h rfl rfl rfl rfl
  obtain ⟨f, g, h⟩ := ei_p h rfl rfl rfl rfl
  obtain ⟨a1, h1⟩ := gt_i (c := 1) (k := 1) rfl σ i
  obtain ⟨f, g, h⟩ := ei_get h rfl h1
  obtain ⟨f, g, h⟩ := ei_p h rfl rfl rfl rfl
  obtain ⟨a2, h2⟩ := gt_i (c := 1) (k := 2) rfl σ i
  obtain ⟨f, g, h⟩ := ei_get h rfl h2
  obtain ⟨f, g, h⟩ := ei_p h rfl rfl rfl rfl
  obtain ⟨a3, h3⟩ := gt_i (c := 1) (k := 3) rfl σ i
  obtain ⟨f, g, h⟩ := ei_get h rfl h3
  obtain ⟨f, g, h⟩ := ei_p h rfl rfl rfl rfl
  obtain ⟨a4, h4⟩ := gt_i (c := 1) (k := 4) rfl σ i
  obtain ⟨f, g, h⟩ := ei_get h rfl h4
  obtain ⟨f, g, h⟩ := ei_p h rfl rfl rfl rfl
  obtain ⟨a5, h5⟩ := gt_i (c := 1) (k := 5) rfl σ i
  obtain ⟨f, g, h⟩ := ei_get h rfl h5
  obtain ⟨x, τ, r, ⟨v, rfl, f, g, h⟩ | ⟨b, rfl, hq⟩⟩ := ei_v (as := [.inl a5, .inl a4, .inl a3, .inl a2, .inl a1]) h rfl rfl rfl
  rotate_left
  · exact Or.inl ⟨b, congrArg Prod.fst hq⟩
  have Y1 := hy_run (j := 72) (by decide) r Y
  have t := ev_ty z72_at r
  rcases v with _ | x | x | x
  · cases t
  rotate_left
  · cases t
  · cases t
  obtain ⟨f, g, h⟩ := ei_p h rfl rfl rfl rfl
  obtain ⟨f, g, h⟩ := ei_p h rfl rfl rfl rfl
  obtain ⟨f, g, h⟩ := ei_p h rfl rfl rfl rfl
  exact w61t Y1 h
theorem w61_7 {σ σ' : mS} {i : Nat} {w : mX} (Y : hy (fun _ => 0) σ) (h0 : m_get σ 1 i 0 = .inl (Int32.ofInt 7)) (h : ev_run sm_all 61 [rf 4 0, rf 1 i] σ w σ') : (∃ b, w = .inr b) ∨ tz σ' := by
  obtain ⟨F, f, h⟩ := ei_go h z61_at
  obtain ⟨f, g, h⟩ := ei_p h rfl rfl rfl rfl
  obtain ⟨f, g, h⟩ := ei_get h rfl h0
  obtain ⟨f, g, h⟩ := ei_p h rfl rfl rfl rfl
  obtain ⟨f, g, h⟩ := ei_p h rfl rfl rfl rfl
  obtain ⟨f, g, h⟩ := ei_p h rfl rfl rfl rfl
  obtain ⟨x, τ, r, ⟨v, rfl, f, g, h⟩ | ⟨b, rfl, hq⟩⟩ := ei_v (as := [rf 1 i]) h rfl rfl rfl
  rotate_left
  · exact Or.inl ⟨b, congrArg Prod.fst hq⟩
  have Y1 := hy_run (j := 62) (by decide) r Y
  have t := ev_ty z62_at r
  rcases v with _ | x | x | x
  · cases t
  · rcases t with t | ⟨t, -⟩ <;> cases t
  rotate_left
  · cases t
  obtain ⟨f, g, h⟩ := ei_p h rfl rfl rfl rfl
  obtain ⟨f, g, h⟩ := ei_p h rfl rfl rfl rfl
  exact w61t Y1 h
theorem w61_8 {σ σ' : mS} {i : Nat} {w : mX} (Y : hy (fun _ => 0) σ) (h0 : m_get σ 1 i 0 = .inl (Int32.ofInt 8)) (h : ev_run sm_all 61 [rf 4 0, rf 1 i] σ w σ') : (∃ b, w = .inr b) ∨ tz σ' := by
  obtain ⟨F, f, h⟩ := ei_go h z61_at
  obtain ⟨f, g, h⟩ := ei_p h rfl rfl rfl rfl
  obtain ⟨f, g, h⟩ := ei_get h rfl h0
  obtain ⟨f, g, h⟩ := ei_p h rfl rfl rfl rfl
  obtain ⟨f, g, h⟩ := ei_p h rfl rfl rfl rfl
  obtain ⟨f, g, h⟩ := ei_p h rfl rfl rfl rfl
  obtain ⟨x, τ, r, ⟨v, rfl, f, g, h⟩ | ⟨b, rfl, hq⟩⟩ := ei_v (as := [rf 1 i]) h rfl rfl rfl
  rotate_left
  · exact Or.inl ⟨b, congrArg Prod.fst hq⟩
  have Y1 := hy_run (j := 62) (by decide) r Y
  have t := ev_ty z62_at r
  rcases v with _ | x | x | x
  · cases t
  · rcases t with t | ⟨t, -⟩ <;> cases t
  rotate_left
  · cases t
  obtain ⟨f, g, h⟩ := ei_p h rfl rfl rfl rfl
  obtain ⟨f, g, h⟩ := ei_p h rfl rfl rfl rfl
  exact w61t Y1 h
theorem w61_9 {σ σ' : mS} {i : Nat} {w : mX} (Y : hy (fun _ => 0) σ) (h0 : m_get σ 1 i 0 = .inl (Int32.ofInt 9)) (h : ev_run sm_all 61 [rf 4 0, rf 1 i] σ w σ') : (∃ b, w = .inr b) ∨ tz σ' := by
  obtain ⟨F, f, h⟩ := ei_go h z61_at
  obtain ⟨f, g, h⟩ := ei_p h rfl rfl rfl rfl
  obtain ⟨f, g, h⟩ := ei_get h rfl h0
  obtain ⟨f, g, h⟩ := ei_p h rfl rfl rfl rfl
  obtain ⟨f, g, h⟩ := ei_p h rfl rfl rfl rfl
  obtain ⟨f, g, h⟩ := ei_p h rfl rfl rfl rfl
  obtain ⟨x, τ, r, ⟨v, rfl, f, g, h⟩ | ⟨b, rfl, hq⟩⟩ := ei_v (as := [rf 1 i]) h rfl rfl rfl
  rotate_left
  · exact Or.inl ⟨b, congrArg Prod.fst hq⟩
  have Y1 := hy_run (j := 62) (by decide) r Y
  have t := ev_ty z62_at r
  rcases v with _ | x | x | x
  · cases t
  · rcases t with t | ⟨t, -⟩ <;> cases t
  rotate_left
  · cases t
  obtain ⟨f, g, h⟩ := ei_p h rfl rfl rfl rfl
  obtain ⟨f, g, h⟩ := ei_p h rfl rfl rfl rfl
  exact w61t Y1 h
theorem w61_10 {σ σ' : mS} {i : Nat} {w : mX} (Y : hy (fun _ => 0) σ) (h0 : m_get σ 1 i 0 = .inl (Int32.ofInt 10)) (h : ev_run sm_all 61 [rf 4 0, rf 1 i] σ w σ') : (∃ b, w = .inr b) ∨ tz σ' := by
  obtain ⟨F, f, h⟩ := ei_go h z61_at
  obtain ⟨f, g, h⟩ := ei_p h rfl rfl rfl rfl
  obtain ⟨f, g, h⟩ := ei_get h rfl h0
  obtain ⟨f, g, h⟩ := ei_p h rfl rfl rfl rfl
  obtain ⟨f, g, h⟩ := ei_p h rfl rfl rfl rfl
  obtain ⟨f, g, h⟩ := ei_p h rfl rfl rfl rfl
  obtain ⟨x, τ, r, ⟨v, rfl, f, g, h⟩ | ⟨b, rfl, hq⟩⟩ := ei_v (as := [rf 1 i]) h rfl rfl rfl
  rotate_left
  · exact Or.inl ⟨b, congrArg Prod.fst hq⟩
  have Y1 := hy_run (j := 62) (by decide) r Y
  have t := ev_ty z62_at r
  rcases v with _ | x | x | x
  · cases t
  · rcases t with t | ⟨t, -⟩ <;> cases t
  rotate_left
  · cases t
  obtain ⟨f, g, h⟩ := ei_p h rfl rfl rfl rfl
  obtain ⟨f, g, h⟩ := ei_p h rfl rfl rfl rfl
  exact w61t Y1 h
theorem w61_11 {σ σ' : mS} {i : Nat} {w : mX} (Y : hy (fun _ => 0) σ) (h0 : m_get σ 1 i 0 = .inl (Int32.ofInt 11)) (h : ev_run sm_all 61 [rf 4 0, rf 1 i] σ w σ') : (∃ b, w = .inr b) ∨ tz σ' := by
  obtain ⟨F, f, h⟩ := ei_go h z61_at
  obtain ⟨f, g, h⟩ := ei_p h rfl rfl rfl rfl
  obtain ⟨f, g, h⟩ := ei_get h rfl h0
  obtain ⟨f, g, h⟩ := ei_p h rfl rfl rfl rfl
  obtain ⟨f, g, h⟩ := ei_p h rfl rfl rfl rfl
  obtain ⟨f, g, h⟩ := ei_p h rfl rfl rfl rfl
  obtain ⟨x, τ, r, ⟨v, rfl, f, g, h⟩ | ⟨b, rfl, hq⟩⟩ := ei_v (as := [rf 1 i]) h rfl rfl rfl
  rotate_left
  · exact Or.inl ⟨b, congrArg Prod.fst hq⟩
  have Y1 := hy_run (j := 63) (by decide) r Y
  have t := ev_ty z63_at r
  rcases v with _ | x | x | x
  · cases t
  · rcases t with t | ⟨t, -⟩ <;> cases t
  rotate_left
  · cases t
  obtain ⟨f, g, h⟩ := ei_p h rfl rfl rfl rfl
  exact w61t Y1 h
theorem w61_12 {σ σ' : mS} {i : Nat} {w : mX} (Y : hy (fun _ => 0) σ) (h0 : m_get σ 1 i 0 = .inl (Int32.ofInt 12)) (h : ev_run sm_all 61 [rf 4 0, rf 1 i] σ w σ') : (∃ b, w = .inr b) ∨ tz σ' := by
  obtain ⟨F, f, h⟩ := ei_go h z61_at
  obtain ⟨f, g, h⟩ := ei_p h rfl rfl rfl rfl
  obtain ⟨f, g, h⟩ := ei_get h rfl h0
  obtain ⟨f, g, h⟩ := ei_p h rfl rfl rfl rfl
  obtain ⟨f, g, h⟩ := ei_p h rfl rfl rfl rfl
  obtain ⟨f, g, h⟩ := ei_p h rfl rfl rfl rfl
  obtain ⟨x, τ, r, ⟨v, rfl, f, g, h⟩ | ⟨b, rfl, hq⟩⟩ := ei_v (as := [rf 1 i]) h rfl rfl rfl
  rotate_left
  · exact Or.inl ⟨b, congrArg Prod.fst hq⟩
  have Y1 := hy_run (j := 63) (by decide) r Y
  have t := ev_ty z63_at r
  rcases v with _ | x | x | x
  · cases t
  · rcases t with t | ⟨t, -⟩ <;> cases t
  rotate_left
  · cases t
  obtain ⟨f, g, h⟩ := ei_p h rfl rfl rfl rfl
  exact w61t Y1 h
theorem w61_13 {σ σ' : mS} {i : Nat} {w : mX} (Y : hy (fun _ => 0) σ) (h0 : m_get σ 1 i 0 = .inl (Int32.ofInt 13)) (h : ev_run sm_all 61 [rf 4 0, rf 1 i] σ w σ') : (∃ b, w = .inr b) ∨ tz σ' := by
  obtain ⟨F, f, h⟩ := ei_go h z61_at
  obtain ⟨f, g, h⟩ := ei_p h rfl rfl rfl rfl
  obtain ⟨f, g, h⟩ := ei_get h rfl h0
  obtain ⟨f, g, h⟩ := ei_p h rfl rfl rfl rfl
  obtain ⟨f, g, h⟩ := ei_p h rfl rfl rfl rfl
  obtain ⟨f, g, h⟩ := ei_p h rfl rfl rfl rfl
  obtain ⟨x, τ, r, ⟨v, rfl, f, g, h⟩ | ⟨b, rfl, hq⟩⟩ := ei_v (as := [rf 1 i]) h rfl rfl rfl
  rotate_left
  · exact Or.inl ⟨b, congrArg Prod.fst hq⟩
  have Y1 := hy_run (j := 63) (by decide) r Y
  have t := ev_ty z63_at r
  rcases v with _ | x | x | x
  · cases t
  · rcases t with t | ⟨t, -⟩ <;> cases t
  rotate_left
  · cases t
  obtain ⟨f, g, h⟩ := ei_p h rfl rfl rfl rfl
  exact w61t Y1 h
theorem w61_14 {σ σ' : mS} {i : Nat} {w : mX} (Y : hy (fun _ => 0) σ) (h0 : m_get σ 1 i 0 = .inl (Int32.ofInt 14)) (h : ev_run sm_all 61 [rf 4 0, rf 1 i] σ w σ') : (∃ b, w = .inr b) ∨ tz σ' := by
  obtain ⟨F, f, h⟩ := ei_go h z61_at
  obtain ⟨f, g, h⟩ := ei_p h rfl rfl rfl rfl
  obtain ⟨f, g, h⟩ := ei_get h rfl h0
  obtain ⟨f, g, h⟩ := ei_p h rfl rfl rfl rfl
  obtain ⟨f, g, h⟩ := ei_p h rfl rfl rfl rfl
  obtain ⟨f, g, h⟩ := ei_p h rfl rfl rfl rfl
  obtain ⟨a1, h1⟩ := gt_i (c := 1) (k := 1) rfl σ i
  obtain ⟨f, g, h⟩ := ei_get h rfl h1
  obtain ⟨x, τ, r, ⟨v, rfl, f, g, h⟩ | ⟨b, rfl, hq⟩⟩ := ei_v (as := [.inl a1]) h rfl rfl rfl
  rotate_left
  · exact Or.inl ⟨b, congrArg Prod.fst hq⟩
  have Y1 := hy_run (j := 76) (by decide) r Y
  have t := ev_ty z76_at r
  rcases v with _ | x | x | x
  · cases t
  rotate_left
  · cases t
  · cases t
  obtain ⟨f, g, h⟩ := ei_p h rfl rfl rfl rfl
  obtain ⟨f, g, h⟩ := ei_p h rfl rfl rfl rfl
  obtain ⟨f, g, h⟩ := ei_p h rfl rfl rfl rfl
  exact w61t Y1 h
theorem w61_15 {σ σ' : mS} {i : Nat} {w : mX} (Y : hy (fun _ => 0) σ) (h0 : m_get σ 1 i 0 = .inl (Int32.ofInt 15)) (h : ev_run sm_all 61 [rf 4 0, rf 1 i] σ w σ') : (∃ b, w = .inr b) ∨ tz σ' := by
  obtain ⟨F, f, h⟩ := ei_go h z61_at
  obtain ⟨f, g, h⟩ := ei_p h rfl rfl rfl rfl
  obtain ⟨f, g, h⟩ := ei_get h rfl h0
  obtain ⟨f, g, h⟩ := ei_p h rfl rfl rfl rfl
  obtain ⟨f, g, h⟩ := ei_p h rfl rfl rfl rfl
  obtain ⟨f, g, h⟩ := ei_p h rfl rfl rfl rfl
  obtain ⟨x, τ, r, ⟨v, rfl, f, g, h⟩ | ⟨b, rfl, hq⟩⟩ := ei_v (as := [rf 1 i]) h rfl rfl rfl
  rotate_left
  · exact Or.inl ⟨b, congrArg Prod.fst hq⟩
  have Y1 := hy_run (j := 63) (by decide) r Y
  have t := ev_ty z63_at r
  rcases v with _ | x | x | x
  · cases t
  · rcases t with t | ⟨t, -⟩ <;> cases t
  rotate_left
  · cases t
  obtain ⟨f, g, h⟩ := ei_p h rfl rfl rfl rfl
  exact w61t Y1 h
theorem w61_16 {σ σ' : mS} {i : Nat} {w : mX} (Y : hy (fun _ => 0) σ) (h0 : m_get σ 1 i 0 = .inl (Int32.ofInt 16)) (h : ev_run sm_all 61 [rf 4 0, rf 1 i] σ w σ') : (∃ b, w = .inr b) ∨ tz σ' := by
  obtain ⟨F, f, h⟩ := ei_go h z61_at
  obtain ⟨f, g, h⟩ := ei_p h rfl rfl rfl rfl
  obtain ⟨f, g, h⟩ := ei_get h rfl h0
  obtain ⟨f, g, h⟩ := ei_p h rfl rfl rfl rfl
  obtain ⟨f, g, h⟩ := ei_p h rfl rfl rfl rfl
  obtain ⟨f, g, h⟩ := ei_p h rfl rfl rfl rfl
  obtain ⟨x, τ, r, ⟨v, rfl, f, g, h⟩ | ⟨b, rfl, hq⟩⟩ := ei_v (as := [rf 1 i]) h rfl rfl rfl
  rotate_left
  · exact Or.inl ⟨b, congrArg Prod.fst hq⟩
  have Y1 := hy_run (j := 63) (by decide) r Y
  have t := ev_ty z63_at r
  rcases v with _ | x | x | x
  · cases t
  · rcases t with t | ⟨t, -⟩ <;> cases t
  rotate_left
  · cases t
  obtain ⟨f, g, h⟩ := ei_p h rfl rfl rfl rfl
  exact w61t Y1 h
theorem w61 {σ σ' : mS} {i : Nat} {w : mX} {q : List (Int × Int)} (Y : hy (fun _ => 0) σ) (hq : q ∈ ar_fits) (hf : ar_fit σ i 0 q) (h : ev_run sm_all 61 [rf 4 0, rf 1 i] σ w σ') : (∃ b, w = .inr b) ∨ tz σ' := by
  have key : ∀ {κ : Int} {t : List (Int × Int)}, -100 < κ → κ < 100 → ar_fit σ i 0 ((κ, κ) :: t) → m_get σ 1 i 0 = .inl (Int32.ofInt κ) := by
    intro κ t k1 k2 hf
    obtain ⟨⟨y, y1, y2, y3⟩, -⟩ := hf
    have y2 : κ ≤ y.toInt := y2
    have y3 : y.toInt ≤ κ := y3
    rw [y1]
    have e : y = Int32.ofInt κ := by
      have e1 : y.toInt = κ := by omega
      rw [← e1, Int32.ofInt_toInt]
    rw [e]
  unfold ar_fits at hq
  simp only [List.mem_cons, List.mem_nil_iff, or_false] at hq
  rcases hq with rfl | rfl | rfl | rfl | rfl | rfl | rfl | rfl | rfl | rfl | rfl | rfl | rfl | rfl | rfl | rfl | rfl
  · exact w61_0 Y (key (by decide) (by decide) hf) h
  · exact w61_1 Y (key (by decide) (by decide) hf) h
  · exact w61_2 Y (key (by decide) (by decide) hf) h
  · exact w61_3 Y (key (by decide) (by decide) hf) h
  · exact w61_4 Y (key (by decide) (by decide) hf) h
  · exact w61_5 Y (key (by decide) (by decide) hf) h
  · exact w61_6 Y (key (by decide) (by decide) hf) h
  · exact w61_7 Y (key (by decide) (by decide) hf) h
  · exact w61_8 Y (key (by decide) (by decide) hf) h
  · exact w61_9 Y (key (by decide) (by decide) hf) h
  · exact w61_10 Y (key (by decide) (by decide) hf) h
  · exact w61_11 Y (key (by decide) (by decide) hf) h
  · exact w61_12 Y (key (by decide) (by decide) hf) h
  · exact w61_13 Y (key (by decide) (by decide) hf) h
  · exact w61_14 Y (key (by decide) (by decide) hf) h
  · exact w61_15 Y (key (by decide) (by decide) hf) h
  · exact w61_16 Y (key (by decide) (by decide) hf) h
