/-! the replay, by hand -/
section ER4
variable {j : Nat} {z : mAl} {pc : Nat} {L : List (Option mV)} {σ : mS} {k n : Nat}
theorem er_iret {e : Nat × Nat × Nat × Int × List Nat} {v : Int32} (hr : m_at z.2.1 pc = some (.ireturn, e)) (hk : k ≤ z.1.2.2.2.2.1.cells ∧ n ≤ z.1.2.2.2.2.1.slots) (ht : z.1.2.2.2.1 = some .int ∨ (z.1.2.2.2.1 = some .boolean ∧ (v = 0 ∨ v = 1))) : ER j z (pc, L, [.inl v], σ, k, n) (.inl (some (.inl v)), σ) := by
  refine er_fin ?_
  unfold ev_st ev_nf
  dsimp only
  rw [hr]
  refine ev_if_some.mpr ⟨hk, ?_⟩
  have : ev_iret z.1.2.2.2.1 [.inl v] = some (some (.inl v)) := ev_if_some.mpr ⟨ht, rfl⟩
  rw [this]
  rfl
end ER4
theorem i32_inc5 : ∀ i, i < 512 → Int32.ofNat i + Int32.ofInt 1 = Int32.ofNat (i + 1) := by decide +kernel
theorem i32_ge5 {i l : Nat} (hi : i ≤ 512) (hl : l ≤ 512) : (Int32.ofNat l ≤ Int32.ofNat i ↔ l ≤ i) := by
  have h : ∀ i, i < 513 → (Int32.ofNat i).toInt = (i : Int) := by decide +kernel
  rw [Int32.le_iff_toInt_le, h l (by omega), h i (by omega)]
  omega
/-- the kept calls, from one of them on -/
def rp_ch (σ : mS) : List Nat → mV → Prop
  | [], v => ∃ x, v = .inr (.inr x)
  | c :: t, v => v = rf 1 c ∧ rp_ch σ t (m_get σ 1 c 8)
theorem rp_ch.of {σ τ : mS} (h : eqH 1 σ τ) : ∀ {cs : List Nat} {v : mV}, rp_ch σ cs v → rp_ch τ cs v
  | [], _, g => g
  | c :: t, _, ⟨g1, g2⟩ => ⟨g1, by
    rw [h.2]
    exact rp_ch.of h g2⟩
theorem rp_ch.rf {σ : mS} : ∀ {cs : List Nat} {v : mV}, rp_ch σ cs v → ∃ x, v = .inr (.inr x)
  | [], _, g => g
  | c :: _, _, g => ⟨some (1, c), g.1⟩
def S61s : List Nat := [3, 4, 5, 6, 8, 9, 10, 11, 12, 13, 14, 15, 16, 22, 23, 24, 25, 27, 28, 29, 30, 31, 32, 34, 35, 36, 37, 38, 39, 40, 41, 42, 43, 44, 45, 46, 47, 48, 61, 62, 63, 64, 65, 66, 67, 68, 69, 70, 71, 72, 73, 74, 75, 76, 90, 91, 92, 95, 99, 100, 102, 103, 104, 105, 106, 107, 112, 113, 114, 115, 116, 117]
theorem S61_ok : [1, 3, 4, 5, 9, 11, 12].all (tr_cS S61s) = true := by decide +kernel
/-- performing leaves the calls, the face, the halls' own cells, the feed and the reference -/
theorem pf_old {σ τ : mS} {avs : List mV} {x : mX} {c : Nat} (hc : c ∈ [1, 3, 4, 5, 9, 11, 12]) (h : ev_run sm_all 61 avs σ x τ) : eqH c σ τ := by
  obtain ⟨f, h⟩ := h
  refine tr_cls_ok ?_ (List.all_eq_true.mp S61_ok c hc) f 61 _ _ _ _ (by decide) h
  simp only [List.mem_cons, List.mem_nil_iff, or_false] at hc
  omega
def z157s : mAl := ((yX11_replays, cX11_replays, 3, (some .boolean), { frames := 7, cells := 347, slots := 4031, locals := 190 }, []), rw_X11_replays, false)
theorem z157s_at : m_alF[157]? = some z157s := rfl
theorem rp_loop {σ' : mS} {N k n : Nat} {q : mX × mS} (hN : N ≤ 512) (hk : k ≤ 347) (hn : n ≤ 4031) (K : ∀ v i, ER 157 z157s (64, [some (rf 11 0), some v, some (.inl (Int32.ofNat i))], [], σ', k, n) q) : ∀ (t : List Nat) (i : Nat) (v : mV) (τ : mS), i + t.length = N → m_get τ 11 0 2 = rf 4 1 → m_get τ 11 0 5 = .inl (Int32.ofNat N) → rp_ch τ t v → hs_fold t τ σ' → ER 157 z157s (32, [some (rf 11 0), some v, some (.inl (Int32.ofNat i))], [], τ, k, n) q
  | [], i, v, τ, hi, h2, h5, hc, hf => by
    have e : i = N := hi
    subst e
    have e : τ = σ' := hf
    subst e
    refine er_p rfl rfl rfl rfl ?_
    refine er_p rfl rfl rfl rfl ?_
    refine er_get rfl rfl h5 ?_
    refine er_ct rfl rfl rfl ((i32_ge5 (by omega) (by omega)).mpr (Nat.le_refl _)) ?_
    exact K _ _
  | c :: t, i, v, τ, hi, h2, h5, ⟨hc, hc'⟩, ⟨υ, ⟨w, r⟩, hf⟩ => by
    have hlt : i < N := by
      rw [← hi, List.length_cons]
      omega
    subst hc
    have e1 := pf_old (c := 1) (by decide) r
    have e11 := pf_old (c := 11) (by decide) r
    have g := rp_loop hN hk hn K t (i + 1) (m_get τ 1 c 8) υ (by rw [← hi, List.length_cons]; omega) ((e11.2 _ _).trans h2) ((e11.2 _ _).trans h5) (rp_ch.of e1 hc') hf
    refine er_p rfl rfl rfl rfl ?_
    refine er_p rfl rfl rfl rfl ?_
    refine er_get rfl rfl h5 ?_
    refine er_cf rfl rfl rfl (fun z => by have := (i32_ge5 (by omega) (by omega)).mp z; omega) ?_
    refine er_p rfl rfl rfl rfl ?_
    refine er_cf rfl rfl rfl (fun z => by cases z) ?_
    refine er_p rfl rfl rfl rfl ?_
    refine er_get rfl rfl h2 ?_
    refine er_p rfl rfl rfl rfl ?_
    refine er_vir (as := [rf 1 c]) (v := some (.inr (.inl w))) rfl rfl rfl rfl rfl ⟨Nat.le_of_ble_eq_true rfl, ⟨by show k + 0 ≤ 347; exact hk, by show n + 0 ≤ 4031; exact hn⟩⟩ r ?_
    refine er_p rfl rfl rfl rfl ?_
    refine er_p rfl rfl rfl rfl ?_
    refine er_get rfl rfl (e1.2 c 8) ?_
    obtain ⟨x, hxs⟩ := rp_ch.rf hc'
    rw [hxs] at g ⊢
    refine er_p rfl rfl rfl rfl ?_
    refine er_p rfl rfl rfl rfl ?_
    refine er_p rfl rfl rfl rfl ?_
    have e2 : Int32.ofNat i + Int32.ofInt 1 = Int32.ofNat (i + 1) := i32_inc5 i (by omega)
    rw [← e2] at g
    exact g
