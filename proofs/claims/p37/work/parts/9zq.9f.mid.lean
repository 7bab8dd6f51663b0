/-! the calls of the face, one by one -/
theorem m_ld_o {L : List (Option mV)} {i : Nat} {o : Option mV} {x : mV} (hL : L[i]? = some o) (h : m_ld L i = some x) : o = some x := by
  unfold m_ld at h
  rw [hL] at h
  cases o with
  | none => cases h
  | some w => exact h
theorem T11_rf {x : mV} (h : ab_Tr (2, 11, 0, 0, 1, 1) x) : x = rf 11 0 := by
  rcases x with y | y | _ | ⟨q1, q2⟩
  · cases h.1
  · cases h.1
  · cases h.2
  · obtain ⟨-, -, a3, -, a5⟩ := h
    have a3 : q1 = 11 := a3
    have a5 : (q2 : Int) ≤ 0 := a5
    have : q2 = 0 := by omega
    subst a3; subst this
    rfl
theorem Ti {lo hi : Int} {x : mV} (h : ab_Tr (0, 0, lo, hi, 0, 0) x) : ∃ y : Int32, x = .inl y ∧ lo ≤ y.toInt ∧ y.toInt ≤ hi := by
  rcases x with y | y | _ | q
  · exact ⟨y, rfl, h.2⟩
  · cases h.1
  · cases h.1
  · cases h.1
theorem Tq {c : Nat} {lo hi : Int} {x : mV} (h : ab_Tr (2, c, lo, hi, 1, 1) x) : ∃ q, x = .inr (.inr (some q)) := by
  rcases x with y | y | _ | q
  · cases h.1
  · cases h.1
  · cases h.2
  · exact ⟨q, rfl⟩
/-- one call more, and no other cell is changed -/
def nB (σ σ' : mS) : Prop := σ'.1 1 = σ.1 1 + 1 ∧ (∀ c, c ≠ 1 → σ'.1 c = σ.1 c) ∧ (∀ c i, 13 ≤ c → σ'.2.1 c i = σ.2.1 c i) ∧ ∀ c j k, ¬ (c = 1 ∧ j = σ.1 1) → m_get σ' c j k = m_get σ c j k
theorem nB_nus {σ : mS} : nB σ (m_nu σ 1 0) := ⟨m_nu_cnt .., fun c hc => m_nu_cntO σ hc, fun c i hc => m_nu_len σ (fun z => by omega), fun c j k h => m_nu_old σ h⟩
theorem nB.c4 {σ τ : mS} {k : Nat} {w x y u : Int32} (h : nB σ τ) : nB σ (c4 τ (σ.1 1) k w x y u) := ⟨by rw [c4_1]; exact h.1, fun c hc => by rw [c4_1]; exact h.2.1 c hc, fun c i hc => by rw [c4_2]; exact h.2.2.1 c i hc, fun c j f hn => (c4_ne (fun z => hn ⟨z.1, z.2.1⟩)).trans (h.2.2.2 c j f hn)⟩
/-- all that a call of the face may write -/
def WM : List ab_G := ar_W61 ++ W158s
theorem WM_61 : ac_subW ar_W61 WM = true := by decide +kernel
theorem WM_158 : ac_subW W158s WM = true := by decide +kernel
theorem nB.fr {σ τ : mS} (h : nB σ τ) : ac_fr WM σ τ := ⟨h.2.1, by have := h.1; omega, h.2.2.1, fun c i k hn => Or.inl (h.2.2.2 c i k (fun z => hn ⟨z.1, by have := h.1; omega, by have := h.1; omega⟩))⟩
theorem fr0 {σ τ : mS} (h : ac_fr [] σ τ) : ac_fr WM σ τ := ⟨h.1, h.2.1, h.2.2.1, fun c i k hn => (h.2.2.2 c i k hn).elim Or.inl (fun ⟨_, hb, _⟩ => by cases hb)⟩
theorem iv_110 {σ0 σ : mS} (h : iv σ0 σ) : m_get σ 11 0 0 = rf 4 0 := by
  obtain ⟨⟨m, -, cs, -, -, -, -, h0, -⟩, -⟩ := h
  exact h0
/-- performed and done -/
theorem mu_mid {σ0 σA σB : mS} {q : List (Int × Int)} (hI : iv σ0 σA) (h5 : σA.1 1 ≤ 511) (hK : ac_KK ac_K0 σB) (hB : nB σA σB) (hq : q ∈ ar_fits) (hf : ar_fit σB (σA.1 1) 0 q) : ∃ v σC σD, ev_run sm_all 61 [rf 4 0, rf 1 (σA.1 1)] σB (.inl (some (.inr (.inl v)))) σC ∧ ev_run sm_all 158 [rf 11 0, rf 1 (σA.1 1), .inr (.inl v)] σC (.inl (some (.inr (.inl v)))) σD ∧ ac_KK ac_K0 σD ∧ ac_fr WM σA σD ∧ σD.1 1 = σA.1 1 + 1 ∧ iv σ0 σD := by
  obtain ⟨⟨m, m1, m2⟩, t, Y⟩ := hI
  have b1 := hB.1
  have IB := rp_I_new m2 m1 h5 b1 hB.2.1 hB.2.2.1 hB.2.2.2
  have YB := hy_K Y ⟨hB.2.2.1, fun c j k hp => hB.2.2.2 c j k (fun z => by rw [z.1] at hp; cases hp)⟩
  have tB : tz σB := fun p hp => (hB.2.2.2 8 p 7 (fun z => by cases z.1)).trans (t p hp)
  obtain ⟨v, σC, r, kC, fC, cC, jC⟩ := rp_pf hq hf h5 (by omega) hK IB
  have YC := hy_run (j := 61) (by decide) r YB
  have tC : tz σC := by
    rcases w61s YB hq hf r with ⟨b, e⟩ | t
    · cases e
    · exact t
  have fr1 := ac_fr_tr hB.fr fC WM_61
  by_cases hr : m_get σC 1 (σA.1 1) 0 = .inl (Int32.ofInt 2) ∧ v = Int64.ofInt (-1)
  · obtain ⟨hr1, rfl⟩ := hr
    have e1 : m_get σB 1 (σA.1 1) 0 = .inl (Int32.ofInt 2) := ((pf_old (c := 1) (by decide) r).2 _ 0).symm.trans hr1
    have es := w61r YB tB e1 r
    exact ⟨_, σC, σC, r, dn_ref hr1, kC, fr1, by omega, ⟨σA.1 1, by omega, rp_I_eqS IB (by omega) es⟩, tC, YC⟩
  · obtain ⟨σD, r2, kD, fD, cD, iD⟩ := dn_run kC jC (by omega) YC tC hr
    exact ⟨v, σC, σD, r, r2, kD, ac_fr_tr fr1 fD WM_158, by omega, iD⟩
/-- what a call of the face leaves -/
def muQ (ex : List Nat) (σ0 σ : mS) (x : mX) (σ' : mS) : Prop := ac_KK ac_K0 σ' ∧ ac_fr WM σ σ' ∧ σ'.1 1 ≤ σ.1 1 + 1 ∧ iv σ0 σ' ∧ match x with
  | .inr b => b ∈ ex
  | .inl _ => True
theorem muQ_x {ex : List Nat} {σ0 σ σ' : mS} {b : Nat} (hI : iv σ0 σ) (hb : b ∈ ex) (k : ac_KK ac_K0 σ') (f : ac_fr [] σ σ') (c : σ'.1 1 = σ.1 1) : muQ ex σ0 σ (.inr b) σ' := ⟨k, fr0 f, by omega, iv_fp hI (eqS_fr f c), hb⟩
theorem fr0_tr {σ σA σD : mS} (f : ac_fr [] σ σA) (g : ac_fr WM σA σD) : ac_fr WM σ σD := ac_fr_tr (fr0 f) g (by decide +kernel)
theorem ls2 {L : List (Option mV)} (h : L.length = 2) : ∃ a0 a1, L = [a0, a1] := match L, h with
  | [a0, a1], _ => ⟨a0, a1, rfl⟩
theorem ls3 {L : List (Option mV)} (h : L.length = 3) : ∃ a0 a1 a2, L = [a0, a1, a2] := match L, h with
  | [a0, a1, a2], _ => ⟨a0, a1, a2, rfl⟩
theorem ls4 {L : List (Option mV)} (h : L.length = 4) : ∃ a0 a1 a2 a3, L = [a0, a1, a2, a3] := match L, h with
  | [a0, a1, a2, a3], _ => ⟨a0, a1, a2, a3, rfl⟩
theorem ls5 {L : List (Option mV)} (h : L.length = 5) : ∃ a0 a1 a2 a3 a4, L = [a0, a1, a2, a3, a4] := match L, h with
  | [a0, a1, a2, a3, a4], _ => ⟨a0, a1, a2, a3, a4, rfl⟩
theorem ls6 {L : List (Option mV)} (h : L.length = 6) : ∃ a0 a1 a2 a3 a4 a5, L = [a0, a1, a2, a3, a4, a5] := match L, h with
  | [a0, a1, a2, a3, a4, a5], _ => ⟨a0, a1, a2, a3, a4, a5, rfl⟩
theorem ls7 {L : List (Option mV)} (h : L.length = 7) : ∃ a0 a1 a2 a3 a4 a5 a6, L = [a0, a1, a2, a3, a4, a5, a6] := match L, h with
  | [a0, a1, a2, a3, a4, a5, a6], _ => ⟨a0, a1, a2, a3, a4, a5, a6, rfl⟩
theorem ls8 {L : List (Option mV)} (h : L.length = 8) : ∃ a0 a1 a2 a3 a4 a5 a6 a7, L = [a0, a1, a2, a3, a4, a5, a6, a7] := match L, h with
  | [a0, a1, a2, a3, a4, a5, a6, a7], _ => ⟨a0, a1, a2, a3, a4, a5, a6, a7, rfl⟩
theorem ls9 {L : List (Option mV)} (h : L.length = 9) : ∃ a0 a1 a2 a3 a4 a5 a6 a7 a8, L = [a0, a1, a2, a3, a4, a5, a6, a7, a8] := match L, h with
  | [a0, a1, a2, a3, a4, a5, a6, a7, a8], _ => ⟨a0, a1, a2, a3, a4, a5, a6, a7, a8, rfl⟩
def fit_0 : List (Int × Int) := [(0, 0), (0, 4), (1, 1000000)]
def fit_1 : List (Int × Int) := [(1, 1), ((-1), 4), (1, 1000000)]
def fit_2 : List (Int × Int) := [(2, 2), (0, 4), (0, 2), (0, 1), (1, 9999), (1, 1000), (0, 1000), (0, 3)]
def fit_3 : List (Int × Int) := [(3, 3), (0, 4), (0, 2), (0, 1), (1, 9999), (1, 1000), (1, 9999)]
def fit_4 : List (Int × Int) := [(4, 4), (0, 119), (0, 119)]
def fit_5 : List (Int × Int) := [(5, 5), (0, 119)]
def fit_6 : List (Int × Int) := [(6, 6), (0, 4), (0, 2), (0, 2), (1, 1000), ((-9998), 9998)]
def fit_7 : List (Int × Int) := [(7, 7), (0, 2), (0, 50)]
def fit_8 : List (Int × Int) := [(8, 8), (0, 2)]
def fit_9 : List (Int × Int) := [(9, 9), (0, 2)]
def fit_10 : List (Int × Int) := [(10, 10), (0, 2), (2, 5)]
def fit_11 : List (Int × Int) := [(11, 11), (0, 2), (1, 1000)]
def fit_12 : List (Int × Int) := [(12, 12), (0, 199)]
def fit_13 : List (Int × Int) := [(13, 13), ((-50), 50), ((-50), 50), ((-50), 50)]
def fit_14 : List (Int × Int) := [(14, 14), (1, 50)]
def fit_15 : List (Int × Int) := [(15, 15), (0, 2), (0, 4), (1, 9999)]
def fit_16 : List (Int × Int) := [(16, 16)]
