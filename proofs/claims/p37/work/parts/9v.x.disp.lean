/-! a call is performed: which of them -/
theorem d63 {σ σ' : mS} {c : Nat} {w : Int64} (h : P63 σ (some (1, c)) w σ') : ((m_i σ 1 c 0).toInt = 0 → P29 σ (m_i σ 1 c 1) (m_i σ 1 c 2) w σ') ∧ ((m_i σ 1 c 0).toInt = 1 → P30 σ (m_i σ 1 c 1) (m_i σ 1 c 2) w σ') ∧ ((m_i σ 1 c 0).toInt = 11 → P37 σ (m_i σ 1 c 1) (m_i σ 1 c 2) w σ') ∧ ((m_i σ 1 c 0).toInt = 12 → P34 σ (m_i σ 1 c 1) σ') ∧ ((m_i σ 1 c 0).toInt = 13 → ∃ v, P31 σ (m_i σ 1 c 1) (m_i σ 1 c 2) (m_i σ 1 c 3) v σ' ∧ w = v.toInt64) ∧ ((m_i σ 1 c 0).toInt = 15 → P45 σ (m_i σ 1 c 1) (m_i σ 1 c 2) (m_i σ 1 c 3) w σ' ∧ fw_e w45 σ σ') ∧ ((m_i σ 1 c 0).toInt = 16 → P46 σ w σ') := by
  obtain ⟨i1, e1, h⟩ := h
  cases e1
  rcases h with ⟨k, v1, s2, _, p, rfl, rfl⟩ | ⟨k, v5, σ6, _, p, rfl, rfl⟩ | ⟨k, v5, σ6, _, p, rfl, rfl⟩ | ⟨k, _⟩ | ⟨k, _⟩ | ⟨k, _⟩ | ⟨k, _⟩ | ⟨k, _⟩ | ⟨k, _⟩ | ⟨k, _⟩ | ⟨k, _⟩ | ⟨k, _⟩ | ⟨k, v5, σ6, _, p, rfl, rfl⟩ | ⟨k, σ6, _, p, rfl, rfl⟩ | ⟨k, v5, σ6, _, p, rfl, rfl⟩ | ⟨k, _⟩ | ⟨k, v5, σ6, F, p, rfl, rfl⟩ <;> refine ⟨fun z => ?_, fun z => ?_, fun z => ?_, fun z => ?_, fun z => ?_, fun z => ?_, fun z => ?_⟩
  all_goals first
    | exact absurd z (by omega)
    | exact p
    | exact ⟨p, F⟩
    | exact ⟨_, p, rfl⟩
theorem d62 {σ σ' : mS} {c ip : Nat} {w : Int64} (hip : (m_i σ 1 c 1).toInt = ip) (hi : ip < 3) (h : P62 σ (some (1, c)) w σ') : ((m_i σ 1 c 0).toInt = 7 → ∃ v, P115 σ ip (m_i σ 1 c 2) v σ' ∧ w = v.toInt64) ∧ ((m_i σ 1 c 0).toInt = 8 → σ' = m_set σ 8 ip 1 (.inl (Int32.ofInt 1)) ∧ w = Int64.ofNat 0) ∧ ((m_i σ 1 c 0).toInt = 9 → ∃ v, P74 σ (some (8, ip)) v σ' ∧ w = v.toInt64) ∧ ((m_i σ 1 c 0).toInt = 10 → ∃ σ14, fw_e w36 σ σ14 ∧ P36 σ (some (8, ip)) (m_i σ 1 c 2) σ14 ∧ P15 σ14 (m_i σ14 8 ip 0) (m_i σ14 1 c 2) σ' ∧ w = (m_i σ' 8 ip 5).toInt64) := by
  obtain ⟨i1, e1, v3, p3', h⟩ := h
  cases e1
  have n := i_nat (a := m_i σ 1 c 1) (by omega)
  have e : (m_i σ 1 c 1).toNatClampNeg = ip := by omega
  have ev := p24 p3' (by omega)
  rw [e] at ev
  rw [ev] at h
  rcases h with ⟨z, _⟩ | ⟨q8, e8, h⟩
  · cases z
  cases e8
  rcases h with ⟨k, σ14, F14, p14, i17, e17, σ20, _, p20, rfl, rfl⟩ | ⟨k, i23, e23, v25, σ26, _, p, rfl, rfl⟩ | ⟨k, i29, e29, σ32, es, rfl, rfl⟩ | ⟨k, v34, σ35, _, p, rfl, rfl⟩
  · cases e17
    refine ⟨fun z => ?_, fun z => ?_, fun z => ?_, fun z => ⟨σ14, F14, p14, p20, rfl⟩⟩ <;> exact absurd z (by omega)
  · cases e23
    refine ⟨fun z => ⟨_, p, rfl⟩, fun z => ?_, fun z => ?_, fun z => ?_⟩ <;> exact absurd z (by omega)
  · cases e29
    refine ⟨fun z => ?_, fun z => ⟨es, rfl⟩, fun z => ?_, fun z => ?_⟩ <;> exact absurd z (by omega)
  · refine ⟨fun z => ?_, fun z => ?_, fun z => ⟨_, p, rfl⟩, fun z => ?_⟩ <;> exact absurd z (by omega)
/-- what is done, before orders that wait are woken -/
def act (σ : mS) (c : Nat) (w : Int64) (τ : mS) : Prop := (((m_i σ 1 c 0).toInt < 2 ∨ 14 < (m_i σ 1 c 0).toInt ∨ (11 ≤ (m_i σ 1 c 0).toInt ∧ (m_i σ 1 c 0).toInt ≤ 13)) → P63 σ (some (1, c)) w τ) ∧ ((7 ≤ (m_i σ 1 c 0).toInt ∧ (m_i σ 1 c 0).toInt ≤ 10) → P62 σ (some (1, c)) w τ) ∧ ((m_i σ 1 c 0).toInt = 2 → ∃ v, P64 σ (some (1, c)) v τ ∧ w = v.toInt64) ∧ ((m_i σ 1 c 0).toInt = 3 → ∃ v, P65 σ (some (1, c)) v τ ∧ w = v.toInt64 ∧ fw_e w65 σ τ) ∧ ((m_i σ 1 c 0).toInt = 4 → ∃ v, P70 σ (m_i σ 1 c 1) (m_i σ 1 c 2) v τ ∧ w = v.toInt64) ∧ ((m_i σ 1 c 0).toInt = 5 → ∃ v, P71 σ (m_i σ 1 c 1) v τ ∧ w = v.toInt64) ∧ ((m_i σ 1 c 0).toInt = 6 → ∃ v, P72 σ (m_i σ 1 c 1) (m_i σ 1 c 2) (m_i σ 1 c 3) (m_i σ 1 c 4) (m_i σ 1 c 5) v τ ∧ w = v.toInt64) ∧ ((m_i σ 1 c 0).toInt = 14 → ∃ v, P76 σ (m_i σ 1 c 1) v τ ∧ w = v.toInt64)
theorem d61 {σ σ' : mS} {c : Nat} {w : Int64} (h : P61 σ (some (1, c)) w σ') : ∃ τ, act σ c w τ ∧ P69 τ σ' := by
  obtain ⟨i1, e1, h⟩ := h
  cases e1
  unfold act
  rcases h with ⟨k, v, s2, F, p, σ2, _, q, rfl, rfl⟩ | ⟨k, v, s2, F, p, σ2, _, q, rfl, rfl⟩ | ⟨k, v, s2, F, p, σ2, _, q, rfl, rfl⟩ | ⟨k, v, s2, F, p, σ2, _, q, rfl, rfl⟩ | ⟨k, v, s2, F, p, σ2, _, q, rfl, rfl⟩ | ⟨k, v, s2, F, p, σ2, _, q, rfl, rfl⟩ | ⟨k, v, s2, F, p, σ2, _, q, rfl, rfl⟩ | ⟨k, v, s2, F, p, σ2, _, q, rfl, rfl⟩ | ⟨k, v, s2, F, p, σ2, _, q, rfl, rfl⟩ | ⟨k, v, s2, F, p, σ2, _, q, rfl, rfl⟩ | ⟨k, v, s2, F, p, σ2, _, q, rfl, rfl⟩ | ⟨k, v, s2, F, p, σ2, _, q, rfl, rfl⟩ | ⟨k, v, s2, F, p, σ2, _, q, rfl, rfl⟩ | ⟨k, v, s2, F, p, σ2, _, q, rfl, rfl⟩ <;> refine ⟨s2, ⟨fun z => ?_, fun z => ?_, fun z => ?_, fun z => ?_, fun z => ?_, fun z => ?_, fun z => ?_, fun z => ?_⟩, q⟩
  all_goals first
    | exact absurd z (by omega)
    | exact p
    | exact ⟨_, p, rfl⟩
    | exact ⟨_, p, rfl, F⟩
/-! what holds of a hall between calls -/
def HI (n : Int) (N : Nat) (σ : mS) : Prop := HS σ ∧ hN σ N ∧ hO σ N ∧ CI (n + 2 * nF σ) σ ∧ (∀ i, i < 3 → pv σ i 7 = 0) ∧ 0 ≤ (m_i σ 2 0 6).toInt ∧ (m_i σ 2 0 6).toInt ≤ 4
/-- behind what was done, orders that wait are woken -/
theorem bh {n : Int} {N : Nat} {τ σ' : mS} (hs : HS τ) (hn : hN τ N) (ho : hO τ N) (C : CI (n + 2 * nF τ) τ) (h6 : 0 ≤ (m_i τ 2 0 6).toInt ∧ (m_i τ 2 0 6).toInt ≤ 4) (p : P69 τ σ') : HI n N σ' ∧ OX N τ σ' ∧ ((∀ i, i < 3 → pv τ i 7 = 0) → fw_e (wl [(8, 7)]) τ σ') := by
  obtain ⟨X, m, q⟩ := wk hs hn ho p
  have R := RT_fw X.2.2.2.2
  have e : nF σ' = nF τ := nF_of (fun i => (R.2 6 i 9 rfl).1)
  refine ⟨⟨X.hs hs, X.hn hn, X.1, by rw [e]; exact rt_ci X.2.2.2.2 C, m, by rw [(R.2 2 0 6 rfl).1]; exact h6⟩, X, q⟩
theorem HI.sp {n : Int} {N : Nat} {σ : mS} (h : HI n N σ) : n + 2 * nF σ ≤ 300 ∧ 0 ≤ nF σ ∧ nF σ ≤ 5 := ⟨h.2.2.2.1.1.2, nF_b h.2.2.2.1.2.2.2.1⟩
