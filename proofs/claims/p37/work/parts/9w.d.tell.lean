/-! the feed tells: all of it -/
def FT (σ : mS) (f t m : Nat) : Prop := (f = 0 ∧ t = 1 ∨ f = 1 ∧ t = 0) ∧ m_r σ 3 0 3 = some (5, f) ∧ m_r σ 3 0 4 = some (5, t) ∧ tb σ t m ∧ m ≤ 120 ∧ (∀ i, i < m → lQ σ (7 + 2 * t) i ≠ 0) ∧ (0 ≤ (m_i σ 5 f 2).toInt ∧ (m_i σ 5 f 2).toInt ≤ 480)
theorem s53 {σ σ' : mS} {f t m N c : Nat} {MK MQ : Nat → Int} (hs : HS σ) (hF : FT σ f t m) (hn : hN σ N) (ho : hO σ N) (hl : lB σ N) (hM : ms σ c MK MQ) (hc : c ≤ 900000) (h : P53 σ (some (0, 0)) σ') : ∃ (n c' : Nat) (MK' MQ' : Nat → Int), FT σ' t f n ∧ ms σ' c' MK' MQ' ∧ c ≤ c' ∧ c' ≤ c + 240 ∧ (∀ j, j < c → MK' j = MK j ∧ MQ' j = MQ j) ∧ tl n (lK σ' (6 + 2 * f)) (lQ σ' (7 + 2 * f)) m (lK σ (6 + 2 * t)) (lQ σ (7 + 2 * t)) c c' MK' MQ' ∧ nD n (lK σ' (6 + 2 * f)) (lQ σ' (7 + 2 * f)) m (lK σ (6 + 2 * t)) (lQ σ (7 + 2 * t)) (lst c MK' c') (-1) ∧ (∀ i j, i ≠ 4 → i ≠ 5 → i ≠ 6 + 2 * f → i ≠ 7 + 2 * f → m_i σ' 13 i j = m_i σ 13 i j) ∧ (∀ i, i ≠ f → m_i σ' 5 i 2 = m_i σ 5 i 2) := by
  obtain ⟨hft, r3, r4, tbt, hm, hz, nf⟩ := hF
  have hf4 : f < 4 := by omega
  have ht4 : t < 4 := by omega
  have hft' : f ≠ t := by omega
  obtain ⟨i1, e1, σ4, F4, p4, i7, e7, v9, σ10, F10, p10, k, hq⟩ := h
  rw [r3] at e1
  cases e1
  have n0 := i_nat nf.1
  have hN1 := hn.1
  have hN2 := hn.2
  have hb : bo σ 0 0 N id := ⟨HS_g0_0 hs, hN1, hN2, HS_l17_0 hs, fun i hi => ⟨HS_e17 hs (by omega), by
    obtain ⟨g1, g2, g3, g4, _⟩ := ho i hi
    have g2' : 0 ≤ (m_i σ 7 i 2).toInt ∧ (m_i σ 7 i 2).toInt < 3 := g2
    have g3' : 0 ≤ (m_i σ 7 i 3).toInt ∧ (m_i σ 7 i 3).toInt ≤ 1 := g3
    have g4' : 1 ≤ (m_i σ 7 i 4).toInt ∧ (m_i σ 7 i 4).toInt ≤ 9999 := g4
    show (0 ≤ (m_i σ 7 i 2).toInt ∧ (m_i σ 7 i 2).toInt ≤ 8) ∧ (0 ≤ (m_i σ 7 i 3).toInt ∧ (m_i σ 7 i 3).toInt ≤ 1) ∧ 0 ≤ (m_i σ 7 i 4).toInt ∧ (m_i σ 7 i 4).toInt < 50000
    omega, fun _ => by
    have g7 := (ho i hi).2.2.2.2.2.2.1
    have l := hl i hi
    have g7' : 0 ≤ (m_i σ 7 i 7).toInt ∧ (m_i σ 7 i 7).toInt ≤ oi σ i 6 := g7
    show 0 ≤ (m_i σ 7 i 7).toInt ∧ (m_i σ 7 i 7).toInt ≤ 1000000
    omega⟩⟩
  obtain ⟨_, G4, n, hnN, V4, S4, K4, Z4, _⟩ := s85 (lv_HS hs hf4 (n := (m_i σ 5 f 2).toNatClampNeg) n0.symm (by omega)) hb p4
  have hs4 := HS_w hs F4 (by decide)
  have r3' : m_r σ4 3 0 3 = some (5, f) := ((F4.2 3 0 3 rfl).2.2).trans r3
  have r4' : m_r σ4 3 0 4 = some (5, t) := ((F4.2 3 0 4 rfl).2.2).trans r4
  rw [r3'] at e7
  cases e7
  rw [r4'] at p10
  have e13 : ∀ i j, i ≠ 6 + 2 * f → i ≠ 7 + 2 * f → m_i σ4 13 i j = m_i σ 13 i j := fun i j a b => (G4.2.2 13 i j (fun z => by
    rcases z with z | z
    · exact absurd z.1 (by decide)
    · rcases z.2 with y | y
      · exact a y
      · exact b y)).1
  have e5 : ∀ i, i ≠ f → m_i σ4 5 i 2 = m_i σ 5 i 2 := fun i a => (G4.2.2 5 i 2 (fun z => by
    rcases z with z | z
    · exact a z.2.1
    · exact absurd z.1 (by decide))).1
  have B4 : tb σ4 f n := ⟨⟨V4.2.2.2.2.1, V4.2.2.2.2.2.1⟩, S4, K4⟩
  have T4 : tb σ4 t m := tb_of tbt (e5 t (fun z => hft' z.symm)) (fun i => e13 _ i (by omega) (by omega))
  obtain ⟨r, hr, e10, hd⟩ := s86 (lv_HS hs4 hf4 B4.1.1 B4.1.2) S4 (lv_HS hs4 ht4 T4.1.1 T4.1.2) T4.2.1 (by omega) B4.2.2 T4.2.2 (by decide) p10
  cases hr
  subst e10
  have em1 : (Int32.ofInt (-1)).toInt = -1 := by decide
  rw [em1] at hd
  have l0 : lst c MK c = -1 := if_pos rfl
  obtain ⟨p, hp⟩ := pl_ex (c := -1) n (K := lK σ10 (6 + 2 * f)) S4
  obtain ⟨p', hp'⟩ := pl_ex (c := -1) m (K := lK σ10 (6 + 2 * t)) T4.2.1
  have M4 : ms σ10 c MK MQ := by
    unfold ms
    rw [(F4.2 3 0 5 rfl).1]
    simp only [e13 4 _ (by omega) (by omega), e13 5 _ (by omega) (by omega)]
    exact hM
  obtain ⟨c', MK', MQ', x1, x2, x3, x4, x5, x6, x7, x8, x9, x10⟩ := q53_s hf4 ht4 B4 T4 (by omega) hc k v9 (Int32.ofInt 0) σ10 σ' c MK MQ hq hs4 r3' r4' (fun _ _ _ _ => rfl) (fun _ _ => rfl) M4 (Nat.le_refl _) (by rw [i_0]; omega) (fun j j1 j2 => by omega) (by rw [l0]; exact hd) (by rw [l0]; exact ⟨p, p', hp, hp', by rw [i_0]; omega⟩)
  have kf : lK σ' (6 + 2 * f) = lK σ10 (6 + 2 * f) := funext fun i => congrArg Int32.toInt (x9 _ i (by omega) (by omega))
  have qf : lQ σ' (7 + 2 * f) = lQ σ10 (7 + 2 * f) := funext fun i => congrArg Int32.toInt (x9 _ i (by omega) (by omega))
  have kt : lK σ10 (6 + 2 * t) = lK σ (6 + 2 * t) := funext fun i => congrArg Int32.toInt (e13 _ i (by omega) (by omega))
  have qt : lQ σ10 (7 + 2 * t) = lQ σ (7 + 2 * t) := funext fun i => congrArg Int32.toInt (e13 _ i (by omega) (by omega))
  rw [kt, qt, ← kf, ← qf] at x5 x6
  refine ⟨n, c', MK', MQ', ⟨by omega, x7, x8, tb_of B4 (x10 f 2) (fun i => x9 _ i (by omega) (by omega)), by omega, by rw [qf]; exact Z4, ?_⟩, x3, x1, by omega, x4, x5, x6, fun i j a b c d => (x9 i j a b).trans (e13 i j c d), fun i hi => (x10 i 2).trans (e5 i hi)⟩
  rw [x10 t 2, T4.1.1]
  have := T4.1.2
  omega
