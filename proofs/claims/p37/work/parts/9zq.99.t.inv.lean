/-! what is kept for the replay, and the replay's answer -/
/-- m bounds the calls that are kept; the latest of them -/
def rp_K (m : Nat) (cs : List Nat) (v : mV) : Prop := cs.length ≤ m ∧ (∀ c ∈ cs, c < m) ∧ cs.Nodup ∧ (cs = [] → v = .inr (.inr none)) ∧ ∀ c, cs.getLast? = some c → v = rf 1 c
theorem rp_K.up {m m' : Nat} {cs : List Nat} {v : mV} (h : rp_K m cs v) (hm : m ≤ m') : rp_K m' cs v := ⟨Nat.le_trans h.1 hm, fun c hc => Nat.lt_of_lt_of_le (h.2.1 c hc) hm, h.2.2⟩
def rp_I (σ0 : mS) (m : Nat) (σ : mS) : Prop := ∃ cs, hs_H σ0 cs σ ∧ rp_ch σ cs (m_get σ 11 0 3) ∧ m_get σ 11 0 5 = .inl (Int32.ofNat cs.length) ∧ (rp_K m cs (m_get σ 11 0 4) ∧ m ≤ 512) ∧ m_get σ 11 0 0 = rf 4 0 ∧ ((m_get σ 11 0 2 = .inr (.inr none) ∧ ∀ q ∈ ac_cnA, σ.1 q.1 = q.2) ∨ (m_get σ 11 0 2 = rf 4 1 ∧ hy sm_off σ))
/-- whatever is kept: the replay answers yes, keeps it, and changes nothing but the other hall -/
theorem rp_run {σ0 σ : mS} {m : Nat} (hx0 : hxs (fun _ => 0) σ0) (h10 : σ0.1 1 = 0) (hK : ac_KK ac_K0 σ) (hI : rp_I σ0 m σ) : ∃ σ', ev_run sm_all 157 [rf 11 0] σ (.inl (some (.inl 1))) σ' ∧ rp_I σ0 m σ' ∧ ac_KK ac_K0 σ' ∧ σ'.1 1 = σ.1 1 ∧ (∀ c i, 13 ≤ c → fo c i → σ'.2.1 c i = σ.2.1 c i) ∧ ∀ c i k, fo c i → ¬ (c = 11 ∧ k = 2) → m_get σ' c i k = m_get σ c i k := by
  obtain ⟨cs, hH, hch, h5, hk, h0, hM⟩ := hI
  have hl : cs.length ≤ 512 := Nat.le_trans hk.1.1 hk.2
  have f11 : fo 11 0 := Or.inr (Or.inl (by decide))
  rcases hM with ⟨h2, hA⟩ | ⟨h2, hY⟩
  · obtain ⟨σ', r, c1, c2, c3, c4, c5, c6, c7⟩ := rp_runA hx0 h10 hH hK hch h5 hl h0 h2 hA
    have a : ∀ k, k ≠ 2 → m_get σ' 11 0 k = m_get σ 11 0 k := fun k hk => c3 11 0 k f11 (fun z => hk z.2)
    refine ⟨σ', r, ⟨cs, c7, ?_, (a 5 (by decide)).trans h5, (by rw [a 4 (by decide)]; exact hk), (a 0 (by decide)).trans h0, Or.inr ⟨c4, c6⟩⟩, c5, c1, c2, c3⟩
    rw [a 3 (by decide)]
    exact rp_ch.of ⟨c1, fun i k => c3 1 i k (Or.inr (Or.inl (Or.inl rfl))) (fun z => by cases z.1)⟩ hch
  · obtain ⟨σ', r, c1, c2, c3, c5, c6, c7⟩ := rp_runB hx0 h10 hH hK hch h5 hl h0 h2 hY
    have a : ∀ k, m_get σ' 11 0 k = m_get σ 11 0 k := fun k => c3 11 0 k f11
    refine ⟨σ', r, ⟨cs, c7, ?_, (a 5).trans h5, (by rw [a 4]; exact hk), (a 0).trans h0, Or.inr ⟨(a 2).trans h2, c6⟩⟩, c5, by rw [c1], fun c i _ _ => by rw [c2], fun c i k h _ => c3 c i k h⟩
    rw [a 3]
    exact rp_ch.of ⟨by rw [c1], fun i k => c3 1 i k (Or.inr (Or.inl (Or.inl rfl)))⟩ hch
/-- a run that leaves the face's cells and the calls keeps the chain -/
theorem rp_I0 {σ : mS} (h3 : ∃ x, m_get σ 11 0 3 = .inr (.inr x)) (h5 : m_get σ 11 0 5 = .inl 0) (h0 : m_get σ 11 0 0 = rf 4 0) (h2 : m_get σ 11 0 2 = .inr (.inr none)) (h4 : m_get σ 11 0 4 = .inr (.inr none)) (hA : ∀ q ∈ ac_cnA, σ.1 q.1 = q.2) : rp_I σ 0 σ := ⟨[], hs_H0, h3, h5, ⟨⟨Nat.le_refl _, (fun _ h => by cases h), List.nodup_nil, fun _ => h4, (fun _ h => by cases h)⟩, by decide⟩, h0, Or.inl ⟨h2, hA⟩⟩
