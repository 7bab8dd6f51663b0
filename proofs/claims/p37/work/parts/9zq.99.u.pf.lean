/-! a call is performed, and not yet kept -/
def rp_M (σ : mS) : Prop := (m_get σ 11 0 2 = .inr (.inr none) ∧ ∀ q ∈ ac_cnA, σ.1 q.1 = q.2) ∨ (m_get σ 11 0 2 = rf 4 1 ∧ hy sm_off σ)
def rp_J (σ0 : mS) (i : Nat) (σ : mS) : Prop := ∃ cs, hs_H σ0 (cs ++ [i]) σ ∧ rp_ch σ cs (m_get σ 11 0 3) ∧ m_get σ 11 0 5 = .inl (Int32.ofNat cs.length) ∧ (rp_K i cs (m_get σ 11 0 4) ∧ i ≤ 511) ∧ m_get σ 11 0 0 = rf 4 0 ∧ rp_M σ
theorem cnA_1 : ∀ q ∈ ac_cnA, q.1 ≠ 1 := by decide
theorem rp_M_pf {σ σ' : mS} {avs : List mV} {x : mX} (h : rp_M σ) (r : ev_run sm_all 61 avs σ x σ') (hc : ∀ c, c ≠ 1 → σ'.1 c = σ.1 c) : rp_M σ' := by
  have e := pf_old (c := 11) (by decide) r
  rcases h with ⟨h1, h2⟩ | ⟨h1, h2⟩
  · exact Or.inl ⟨(e.2 0 2).trans h1, fun q hq => (hc _ (cnA_1 q hq)).trans (h2 q hq)⟩
  · exact Or.inr ⟨(e.2 0 2).trans h1, hy_run (by decide) r h2⟩
theorem rp_pf {σ0 σ : mS} {i : Nat} {q : List (Int × Int)} (hq : q ∈ ar_fits) (hf : ar_fit σ i 0 q) (hi : i ≤ 511) (hn : i < σ.1 1) (hK : ac_KK ac_K0 σ) (hI : rp_I σ0 i σ) : ∃ v σ', ev_run sm_all 61 [rf 4 0, rf 1 i] σ (.inl (some (.inr (.inl v)))) σ' ∧ ac_KK ac_K0 σ' ∧ ac_fr ar_W61 σ σ' ∧ σ'.1 1 = σ.1 1 ∧ rp_J σ0 i σ' := by
  obtain ⟨cs, hH, hch, h5, hl, h0, hM⟩ := hI
  obtain ⟨v, σ', r, k1, k2, k3, k4⟩ := hs_perform hq hf hi hn hK hH
  have e1 := pf_old (c := 1) (by decide) r
  have e := pf_old (c := 11) (by decide) r
  refine ⟨v, σ', r, k1, k2, k3, cs, k4, ?_, (e.2 0 5).trans h5, ⟨by rw [e.2 0 4]; exact hl.1, hi⟩, (e.2 0 0).trans h0, rp_M_pf hM r k2.1⟩
  rw [e.2 0 3]
  exact rp_ch.of e1 hch
/-- the chain with one more at its end -/
theorem rp_ch_app {σ τ : mS} {i : Nat} : ∀ {cs : List Nat} {v : mV}, rp_ch σ cs v → (∀ c, c ∈ cs.dropLast → m_get τ 1 c 8 = m_get σ 1 c 8) → (∀ c, cs.getLast? = some c → m_get τ 1 c 8 = rf 1 i) → (∃ x, m_get τ 1 i 8 = .inr (.inr x)) → (cs = [] → v = rf 1 i) → rp_ch τ (cs ++ [i]) v
  | [], v, _, _, _, h4, h5 => ⟨h5 rfl, h4⟩
  | [c], v, ⟨g1, g2⟩, h2, h3, h4, _ => ⟨g1, by
    rw [h3 c rfl]
    exact ⟨rfl, h4⟩⟩
  | c :: d :: t, v, ⟨g1, g2⟩, h2, h3, h4, _ => ⟨g1, by
    have e := h2 c (by simp)
    rw [e]
    exact rp_ch_app (cs := d :: t) g2 (fun c' hc' => h2 c' (by
      rw [List.dropLast_cons_of_ne_nil (by simp)]
      exact List.mem_cons_of_mem _ hc')) (fun c' hc' => h3 c' (by
      rw [List.getLast?_cons_cons]
      exact hc')) h4 (fun z => by cases z)⟩
