/-! both halls at their beginning are the same -/
theorem hz_rn {c k : Nat} {ρ : Nat × Nat → mR} : rn ρ (hz c k) = hz c k := by
  unfold hz m_zero
  split <;> rfl
theorem hz_g {c k : Nat} {G : Nat × Nat → Prop} : gV G (hz c k) := by
  unfold hz m_zero
  split <;> trivial
theorem rf_rn {c i : Nat} : rn sm_ρ (rf c i) = rf c (i + sm_off c) := rfl
theorem rf_gh {σ : mS} {c k c' i : Nat} (hi : i < sm_mx c') (h : c' ≠ 7 ∧ c' ≠ 10 ∧ c' ≠ 13) : gV (sm_gh σ c k) (rf c' i) := ⟨Or.inl hi, h.2.1, h.2.2, fun e => absurd e h.1⟩
theorem mx_else {c i : Nat} (h : i < sm_mx c) : c = 0 ∨ c = 2 ∨ c = 4 ∨ c = 6 ∨ c = 7 ∨ c = 8 ∨ c = 10 ∨ c = 13 ∨ c = 14 ∨ c = 16 ∨ c = 17 ∨ c = 18 ∨ c = 20 ∨ c = 21 := by
  unfold sm_mx at h
  split at h <;> first | omega | (exact absurd h (Nat.not_lt_zero _))
set_option maxHeartbeats 2000000 in
theorem hx_hr {σ σ2 : mS} (h0 : hxs (fun _ => 0) σ) (h1 : σ.1 1 = 0) (h2 : hxs sm_off σ2) : sm_hr none hs_E σ σ2 := by
  simp only [hxs, cl_X, Nat.zero_add] at h0
  obtain ⟨⟨a1, a2⟩, a3, a4, ⟨a5, a6⟩, a7, ⟨b0, b1, b2, b3, b4⟩, b5, b6, b7, b8, b9, l1, l2, l3, l4, l5, l6⟩ := h0
  unfold hxs cl_X at h2
  obtain ⟨⟨c1, c2⟩, c3, c4, ⟨c5, c6⟩, c7, ⟨d0, d1, d2, d3, d4⟩, d5, d6, d7, d8, d9, m1, m2, m3, m4, m5, m6⟩ := h2
  have cn7 : sm_cn σ 7 = 0 := by
    show sm_toI (m_get σ 0 0 1) = 0
    rw [a2 1 (by decide)]; rfl
  have cn10 : sm_cn σ 10 = 0 := by
    show sm_toI (m_get σ 2 0 5) = 0
    rw [a7 5 (by decide)]; rfl
  have cn13 : sm_cn σ 13 = 0 := by
    show sm_toI (m_get σ 2 0 6) = 0
    rw [a7 6 (by decide)]; rfl
  refine ⟨fun c i k hce hd => ?_, fun c i hc hi => ?_, ⟨a3, l3, l4, fun i hi => l5 i hi⟩, fun k hk => ⟨(a4 k hk).1, ?_⟩, fun k hk => ⟨b8 k hk, ?_⟩, fun k hk => ⟨b9 k hk, ?_⟩⟩
  · have hi : i < sm_mx c := hce.1.elim (fun h => h) (fun h => by rw [h1] at h; exact absurd h.2 (Nat.not_lt_zero _))
    have i0 : sm_mx c = 1 → i = 0 := fun h => by omega
    rcases mx_else hi with rfl | rfl | rfl | rfl | rfl | rfl | rfl | rfl | rfl | rfl | rfl | rfl | rfl | rfl
    · have e := i0 rfl
      subst e
      by_cases hk : k = 0
      · subst hk
        rw [a1]
        exact ⟨c1, rf_gh (by decide) (by decide)⟩
      · rw [a2 k hk, hz_rn]
        exact ⟨c2 k hk, hz_g⟩
    · have e := i0 rfl
      subst e
      by_cases hk : k < 5
      · match k, hk with
        | 0, _ => rw [b0]; exact ⟨d0, rf_gh (by decide) (by decide)⟩
        | 1, _ => rw [b1]; exact ⟨d1, rf_gh (by decide) (by decide)⟩
        | 2, _ => rw [b2]; exact ⟨d2, rf_gh (by decide) (by decide)⟩
        | 3, _ => rw [b3]; exact ⟨d3, rf_gh (by decide) (by decide)⟩
        | 4, _ => rw [b4]; exact ⟨d4, rf_gh (by decide) (by decide)⟩
      · rw [a7 k (by omega), hz_rn]
        exact ⟨c7 k (by omega), hz_g⟩
    · have e := i0 rfl
      subst e
      have hk : k < 2 := hce.2.2.1 (by decide)
      match k, hk with
      | 0, _ => rw [a5]; exact ⟨c5, rf_gh (by decide) (by decide)⟩
      | 1, _ => rw [a6]; exact ⟨c6, rf_gh (by decide) (by decide)⟩
    · have hi : i < 6 := hi
      obtain ⟨x1, x2, x3, -⟩ := b5 i hi
      obtain ⟨y1, y2, y3, -⟩ := d5 i hi
      rw [show i + sm_off 6 = sm_off 6 + i from Nat.add_comm _ _]
      by_cases hk : k = 0
      · subst hk
        rw [x1]
        exact ⟨y1, trivial⟩
      by_cases hk1 : k = 1
      · subst hk1
        rw [x2]
        refine ⟨y2.trans ?_, rf_gh hi (by decide)⟩
        show rf 14 (sm_off 14 + i) = rf 14 (i + sm_off 14)
        rw [Nat.add_comm]
      · rw [x3 k hk hk1, hz_rn]
        exact ⟨y3 k hk hk1, hz_g⟩
    · have hi : i < 120 := hi
      by_cases hk : k = 0
      · subst hk
        rw [(a4 i hi).2, show i + sm_off 7 = sm_off 7 + i from Nat.add_comm _ _]
        exact ⟨(c4 i hi).2, trivial⟩
      · exact absurd (Or.inl ⟨Or.inl ⟨rfl, hk⟩, by show sm_cn σ 7 ≤ (i : Int); omega⟩) hd
    · have hi : i < 3 := hi
      obtain ⟨-, x1, x2, x3⟩ := b7 i hi
      obtain ⟨-, y1, y2, y3⟩ := d7 i hi
      rw [show i + sm_off 8 = sm_off 8 + i from Nat.add_comm _ _]
      by_cases hk : k = 0
      · subst hk
        rw [x1]
        exact ⟨y1, trivial⟩
      by_cases hk1 : k = 6
      · subst hk1
        rw [x2]
        exact ⟨y2, trivial⟩
      · rw [x3 k hk hk1, hz_rn]
        exact ⟨y3 k hk hk1, hz_g⟩
    · exact absurd (Or.inl ⟨Or.inr (Or.inl rfl), by show sm_cn σ 10 ≤ (i : Int); omega⟩) hd
    · exact absurd (Or.inl ⟨Or.inr (Or.inr rfl), by show sm_cn σ 13 ≤ (i : Int); omega⟩) hd
    · have hi : i < 6 := hi
      have hk : k < 3 := by have := hce.2.2.2.2 (by decide); rw [l6 i hi] at this; exact this
      rw [show i + sm_off 14 = sm_off 14 + i from Nat.add_comm _ _, (b5 i hi).2.2.2 k hk, hz_rn]
      exact ⟨(d5 i hi).2.2.2 k hk, hz_g⟩
    · have e := i0 rfl
      subst e
      have hk : k < 5 := by have := hce.2.2.2.2 (by decide); rw [l1] at this; exact this
      have x := b6 k hk
      rw [x]
      refine ⟨(d6 k hk).trans ?_, rf_gh (by show 1 + k < 6; omega) (by decide)⟩
      show rf 6 (sm_off 6 + 1 + k) = rf 6 (1 + k + sm_off 6)
      congr 1
      show 6 + 1 + k = 1 + k + 6
      omega
    · exact absurd rfl hce.2.1.1
    · have e := i0 rfl
      subst e
      have hk : k < 3 := by have := hce.2.2.2.2 (by decide); rw [l2] at this; exact this
      rw [(b7 k hk).1]
      refine ⟨(d7 k hk).1.trans ?_, rf_gh hk (by decide)⟩
      show rf 8 (sm_off 8 + k) = rf 8 (k + sm_off 8)
      rw [Nat.add_comm]
    · exact absurd rfl hce.2.1.2.1
    · exact absurd rfl hce.2.1.2.2
  · have i0 : sm_mx c = 1 → i = 0 := fun h => by omega
    rcases mx_else hi with rfl | rfl | rfl | rfl | rfl | rfl | rfl | rfl | rfl | rfl | rfl | rfl | rfl | rfl <;> first | omega | skip
    · rw [l5 i hi, show i + sm_off 13 = sm_off 13 + i from Nat.add_comm _ _]; exact m5 i hi
    · rw [l6 i hi, show i + sm_off 14 = sm_off 14 + i from Nat.add_comm _ _]; exact m6 i hi
    · have e := i0 rfl; subst e; rw [l1]; exact m1
    · have e := i0 rfl; subst e; rw [a3]; exact c3
    · have e := i0 rfl; subst e; rw [l2]; exact m2
    · have e := i0 rfl; subst e; rw [l3]; exact m3
    · have e := i0 rfl; subst e; rw [l4]; exact m4
  · rw [Nat.add_comm]; exact (c4 k hk).1
  · rw [Nat.add_comm]; exact d8 k hk
  · rw [Nat.add_comm]; exact d9 k hk
