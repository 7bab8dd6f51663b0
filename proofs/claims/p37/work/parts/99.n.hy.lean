/-! the form of a hall, whatever came: after its clear it is at its beginning -/
def hy (B : Nat → Nat) (τ : mS) : Prop :=
  (m_get τ 0 (B 0) 0 = rf 17 (B 17) ∧ ∀ f, 3 ≤ f → m_get τ 0 (B 0) f = hz 0 f) ∧ τ.2.1 17 (B 17) = 120 ∧ (∀ k, k < 120 → m_get τ 17 (B 17) k = rf 7 (B 7 + k) ∧ m_get τ 7 (B 7 + k) 0 = .inl (Int32.ofNat k)) ∧
  (m_get τ 4 (B 4) 0 = rf 0 (B 0) ∧ m_get τ 4 (B 4) 1 = rf 2 (B 2)) ∧ (∀ f, 11 ≤ f → m_get τ 2 (B 2) f = hz 2 f) ∧
  (m_get τ 2 (B 2) 0 = rf 16 (B 16) ∧ m_get τ 2 (B 2) 1 = rf 6 (B 6) ∧ m_get τ 2 (B 2) 2 = rf 18 (B 18) ∧ m_get τ 2 (B 2) 3 = rf 20 (B 20) ∧ m_get τ 2 (B 2) 4 = rf 21 (B 21)) ∧
  (∀ m, m < 6 → m_get τ 6 (B 6 + m) 0 = .inl (if m = 0 then Int32.ofInt (-1) else Int32.ofNat (m - 1)) ∧ m_get τ 6 (B 6 + m) 1 = rf 14 (B 14 + m) ∧ ∀ f, 11 ≤ f → m_get τ 6 (B 6 + m) f = hz 6 f) ∧
  (∀ k, k < 5 → m_get τ 16 (B 16) k = rf 6 (B 6 + 1 + k)) ∧
  (∀ k, k < 3 → m_get τ 18 (B 18) k = rf 8 (B 8 + k) ∧ m_get τ 8 (B 8 + k) 0 = .inl (Int32.ofNat k) ∧ ∀ f, 9 ≤ f → m_get τ 8 (B 8 + k) f = hz 8 f) ∧
  (∀ k, k < 200 → m_get τ 20 (B 20) k = rf 10 (B 10 + k)) ∧ (∀ k, k < 4 → m_get τ 21 (B 21) k = rf 13 (B 13 + k)) ∧
  (τ.2.1 16 (B 16) = 5 ∧ τ.2.1 18 (B 18) = 3 ∧ τ.2.1 20 (B 20) = 200 ∧ τ.2.1 21 (B 21) = 4 ∧ (∀ k, k < 4 → τ.2.1 13 (B 13 + k) = 3) ∧ ∀ m, m < 6 → τ.2.1 14 (B 14 + m) = 3)
theorem hx_hy {B : Nat → Nat} {τ : mS} (h : hxs B τ) : hy B τ := by
  obtain ⟨⟨a1, a2⟩, a3, a4, a5, a7, b, b5, b6, b7, b8, b9, l⟩ := h
  exact ⟨⟨a1, fun f hf => a2 f (by omega)⟩, a3, a4, a5, fun f hf => a7 f (by omega), b, fun m hm => ⟨(b5 m hm).1, (b5 m hm).2.1, fun f hf => (b5 m hm).2.2.1 f (by omega) (by omega)⟩, b6, fun k hk => ⟨(b7 k hk).1, (b7 k hk).2.1, fun f hf => (b7 k hk).2.2.2 f (by omega) (by omega)⟩, b8, b9, l⟩
theorem fv_hz {c k : Nat} (h : ¬ (c = 8 ∧ k = 6)) : fv c k = hz c k := if_neg h
/-- cells that no clear clears -/
theorem zH_no {B : Nat → Nat} {c j k : Nat} (h : zH B c j k) : (c = 0 ∧ 1 ≤ k ∧ k ≤ 2) ∨ (c = 2 ∧ 5 ≤ k ∧ k ≤ 10) ∨ (c = 6 ∧ 2 ≤ k ∧ k ≤ 10) ∨ (c = 8 ∧ 1 ≤ k ∧ k ≤ 8) ∨ (c = 14 ∧ k < 3) := by
  rcases h with (((h | h) | h) | h) | h
  · exact Or.inr (Or.inr (Or.inr (Or.inr ⟨h.1, h.2.2.2⟩)))
  · exact Or.inr (Or.inr (Or.inl ⟨h.1, h.2.2.2⟩))
  · exact Or.inr (Or.inr (Or.inr (Or.inl ⟨h.1, h.2.2.2⟩)))
  · exact Or.inr (Or.inl ⟨h.1, h.2.2⟩)
  · exact Or.inl ⟨h.1, h.2.2⟩
theorem hy_hx {B : Nat → Nat} {σ τ : mS} (h : hy B σ) (g : zs (zH B) σ τ) : hxs B τ := by
  have n : ∀ {c j k v}, m_get σ c j k = v → ¬ ((c = 0 ∧ 1 ≤ k ∧ k ≤ 2) ∨ (c = 2 ∧ 5 ≤ k ∧ k ≤ 10) ∨ (c = 6 ∧ 2 ≤ k ∧ k ≤ 10) ∨ (c = 8 ∧ 1 ≤ k ∧ k ≤ 8) ∨ (c = 14 ∧ k < 3)) → m_get τ c j k = v := fun e hn => (g.2.2.2 _ _ _ (fun z => hn (zH_no z))).trans e
  have z0s : ∀ f, 1 ≤ f → f ≤ 2 → m_get τ 0 (B 0) f = hz 0 f := fun f a b => (g.2.2.1 0 _ f (Or.inr ⟨rfl, rfl, a, b⟩)).trans (fv_hz (fun z => by cases z.1))
  have z2s : ∀ f, 5 ≤ f → f ≤ 10 → m_get τ 2 (B 2) f = hz 2 f := fun f a b => (g.2.2.1 2 _ f (Or.inl (Or.inr ⟨rfl, rfl, a, b⟩))).trans (fv_hz (fun z => by cases z.1))
  have z6s : ∀ m, m < 6 → ∀ f, 2 ≤ f → f ≤ 10 → m_get τ 6 (B 6 + m) f = hz 6 f := fun m hm f a b => (g.2.2.1 6 _ f (Or.inl (Or.inl (Or.inl (Or.inr ⟨rfl, by omega, by omega, a, b⟩))))).trans (fv_hz (fun z => by cases z.1))
  have z14s : ∀ m, m < 6 → ∀ f, f < 3 → m_get τ 14 (B 14 + m) f = hz 14 f := fun m hm f a => (g.2.2.1 14 _ f (Or.inl (Or.inl (Or.inl (Or.inl ⟨rfl, by omega, by omega, a⟩))))).trans (fv_hz (fun z => by cases z.1))
  have z8s : ∀ k, k < 3 → ∀ f, 1 ≤ f → f ≤ 8 → m_get τ 8 (B 8 + k) f = fv 8 f := fun k hk f a b => g.2.2.1 8 _ f (Or.inl (Or.inl (Or.inr ⟨rfl, by omega, by omega, a, b⟩)))
  obtain ⟨⟨a1, a2⟩, a3, a4, ⟨a5, a6⟩, a7, ⟨b0, b1, b2, b3, b4⟩, b5, b6, b7, b8, b9, l⟩ := h
  refine ⟨⟨n a1 (by omega), fun f hf => ?_⟩, ?_, fun k hk => ⟨n (a4 k hk).1 (by omega), n (a4 k hk).2 (by omega)⟩, ⟨n a5 (by omega), n a6 (by omega)⟩, fun f hf => ?_, ⟨n b0 (by omega), n b1 (by omega), n b2 (by omega), n b3 (by omega), n b4 (by omega)⟩, fun m hm => ⟨n (b5 m hm).1 (by omega), n (b5 m hm).2.1 (by omega), fun f h0 h1 => ?_, fun f hf => z14s m hm f hf⟩, fun k hk => n (b6 k hk) (by omega), fun k hk => ⟨n (b7 k hk).1 (by omega), n (b7 k hk).2.1 (by omega), ?_, fun f h0 h6 => ?_⟩, fun k hk => n (b8 k hk) (by omega), fun k hk => n (b9 k hk) (by omega), ?_⟩
  · by_cases x : f ≤ 2
    · exact z0s f (by omega) x
    · exact n (a2 f (by omega)) (by omega)
  · rw [g.2.1]; exact a3
  · by_cases x : f ≤ 10
    · exact z2s f hf x
    · exact n (a7 f (by omega)) (by omega)
  · by_cases x : f ≤ 10
    · exact z6s m hm f (by omega) x
    · exact n ((b5 m hm).2.2 f (by omega)) (by omega)
  · exact z8s k hk 6 (by decide) (by decide)
  · by_cases x : f ≤ 8
    · exact (z8s k hk f (by omega) x).trans (fv_hz (fun z => h6 z.2))
    · exact n ((b7 k hk).2.2 f (by omega)) (by omega)
  · rw [g.2.1]; exact l
/-- a hall of that form, cleared: it is at its beginning, and no cell of another hall is touched -/
theorem hy_clear {B : Nat → Nat} {σ : mS} (h : hy B σ) : ∃ τ, ev_run sm_all 59 [rf 4 (B 4)] σ (.inl none) τ ∧ hxs B τ ∧ zs (zH B) σ τ := by
  have h' := h
  obtain ⟨-, -, -, ⟨a5, a6⟩, -, ⟨b0, b1, b2, -, -⟩, b5, b6, b7, -, -, l1, l2, -, -, -, l6⟩ := h'
  obtain ⟨τ, r, g⟩ := cr_59 a5 a6 (B := B) ⟨⟨b0, b1, b2⟩, fun m hm => (b5 m hm).2.1, b6, fun k hk => (b7 k hk).1, l1, l2, l6⟩
  exact ⟨τ, r, hy_hx h g, g⟩
