/-! a new call changes nothing of what is kept -/
theorem rp_ch.of2 {σ τ : mS} : ∀ {cs : List Nat} {v : mV}, (∀ c ∈ cs, m_get τ 1 c 8 = m_get σ 1 c 8) → rp_ch σ cs v → rp_ch τ cs v
  | [], _, _, g => g
  | c :: t, _, h, ⟨g1, g2⟩ => ⟨g1, by
    rw [h c (List.mem_cons_self ..)]
    exact rp_ch.of2 (fun d hd => h d (List.mem_cons_of_mem _ hd)) g2⟩
theorem rp_I_grow {σ0 σ σ1 : mS} {m m' : Nat} (h : rp_I σ0 m σ) (hm : m ≤ m') (hm2 : m' ≤ 512) (hmn : m ≤ σ.1 1) (h1 : σ.1 1 ≤ σ1.1 1) (hc : ∀ i k, i < σ.1 1 → m_get σ1 1 i k = m_get σ 1 i k) (h11 : ∀ k, m_get σ1 11 0 k = m_get σ 11 0 k) (hs : ∀ c i k, i < sm_mx c → m_get σ1 c i k = m_get σ c i k) (hn : ∀ c, c ≠ 1 → σ1.1 c = σ.1 c) (hK : eqK σ σ1) : rp_I σ0 m' σ1 := by
  obtain ⟨cs, hH, hch, h5, ⟨hk, -⟩, h0, hM⟩ := h
  refine ⟨cs, hs_grow hH h1 (fun i k hi _ => hc i k hi) hs (fun c i hc _ => hK.1 c i hc), ?_, (h11 5).trans h5, ⟨by rw [h11 4]; exact hk.up hm, hm2⟩, (h11 0).trans h0, ?_⟩
  · rw [h11 3]
    exact rp_ch.of2 (fun c hcs => hc c 8 (Nat.lt_of_lt_of_le (hk.2.1 c hcs) hmn)) hch
  · rcases hM with ⟨m1, m2⟩ | ⟨m1, m2⟩
    · exact Or.inl ⟨(h11 2).trans m1, fun q hq => (hn _ (cnA_1 q hq)).trans (m2 q hq)⟩
    · exact Or.inr ⟨(h11 2).trans m1, hy_K m2 hK⟩
/-- the same from a frame: what changed are cells of the call that is new -/
theorem rp_I_new {σ0 σ σ1 : mS} {m : Nat} (h : rp_I σ0 m σ) (hm : m ≤ σ.1 1) (hi : σ.1 1 ≤ 511) (h1 : σ1.1 1 = σ.1 1 + 1) (hn : ∀ c, c ≠ 1 → σ1.1 c = σ.1 c) (hl : ∀ c i, 13 ≤ c → σ1.2.1 c i = σ.2.1 c i) (hg : ∀ c j k, ¬ (c = 1 ∧ j = σ.1 1) → m_get σ1 c j k = m_get σ c j k) : rp_I σ0 (σ.1 1) σ1 := by
  refine rp_I_grow h hm (by omega) hm (by omega) (fun i k hi => hg 1 i k (fun z => by omega)) (fun k => hg 11 0 k (fun z => by omega)) (fun c i k hs => hg c i k (fun z => (off_sm hs).2 (by omega))) hn ⟨hl, fun c j k hp => hg c j k (fun z => ?_)⟩
  rw [z.1] at hp
  cases hp
/-- a run of methods that change nothing of a class, nothing of a form -/
theorem rp_I_same {σ0 σ σ1 : mS} {m : Nat} (h : rp_I σ0 m σ) (hm : m ≤ σ.1 1) (e1 : eqH 1 σ σ1) (e11 : eqH 11 σ σ1) (hn : ∀ c, σ1.1 c = σ.1 c) (hs : ∀ c i k, i < sm_mx c → m_get σ1 c i k = m_get σ c i k) (hK : eqK σ σ1) : rp_I σ0 m σ1 := by
  have h' := h
  obtain ⟨cs, -, -, -, ⟨-, h5⟩, -⟩ := h'
  exact rp_I_grow h (Nat.le_refl _) h5 hm (by rw [hn]; exact Nat.le_refl _) (fun i k _ => e1.2 i k) (fun k => e11.2 0 k) hs (fun c _ => hn c) hK
