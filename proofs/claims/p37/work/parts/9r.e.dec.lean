/-! the form of the hall, the feed and the face; what a step backwards tells of a reference that is used -/
def hpS (c k : Nat) : Bool := match c with
  | 0 => Nat.beq k 0
  | 2 => Nat.blt k 5
  | 3 => Nat.blt k 3
  | 4 => true
  | 5 => Nat.blt k 2
  | 6 => Nat.blt k 2
  | 7 => Nat.beq k 0
  | 8 => Nat.beq k 0
  | 9 => Nat.beq k 0
  | 11 => Nat.blt k 2
  | 16 => true
  | 17 => true
  | 18 => true
  | 19 => true
  | 20 => true
  | 21 => true
  | _ => false
def HSg (σ : mS) : Prop := m_get σ 0 0 0 = rf 17 0 ∧ m_get σ 2 0 0 = rf 16 0 ∧ m_get σ 2 0 1 = rf 6 0 ∧ m_get σ 2 0 2 = rf 18 0 ∧ m_get σ 2 0 3 = rf 20 0 ∧ m_get σ 2 0 4 = rf 21 0 ∧ m_get σ 3 0 0 = rf 13 4 ∧ m_get σ 3 0 1 = rf 13 5 ∧ m_get σ 3 0 2 = rf 19 0 ∧ m_get σ 4 0 0 = rf 0 0 ∧ m_get σ 4 0 1 = rf 2 0 ∧ m_get σ 11 0 0 = rf 4 0 ∧ m_get σ 11 0 1 = rf 3 0
def HSa (σ : mS) : Prop := (∀ k, k < 5 → m_get σ 16 0 k = rf 6 (k + 1)) ∧ (∀ k, k < 120 → m_get σ 17 0 k = rf 7 k) ∧ (∀ k, k < 3 → m_get σ 18 0 k = rf 8 k) ∧ (∀ k, k < 2 → m_get σ 19 0 k = rf 9 k) ∧ (∀ k, k < 200 → m_get σ 20 0 k = rf 10 k) ∧ (∀ k, k < 4 → m_get σ 21 0 k = rf 13 k)
def HSl (σ : mS) : Prop := σ.2.1 16 0 = 5 ∧ σ.2.1 17 0 = 120 ∧ σ.2.1 18 0 = 3 ∧ σ.2.1 19 0 = 2 ∧ σ.2.1 20 0 = 200 ∧ σ.2.1 21 0 = 4 ∧ σ.2.1 13 4 = 30 ∧ σ.2.1 13 5 = 30 ∧ (∀ k, k < 4 → σ.2.1 13 k = 3) ∧ (∀ k, k < 6 → σ.2.1 14 k = 3) ∧ (∀ k, k < 4 → σ.2.1 13 (6 + 2 * k) = 480 ∧ σ.2.1 13 (7 + 2 * k) = 480)
def HSn (σ : mS) : Prop := (∀ k, k < 6 → m_get σ 6 k 1 = rf 14 k) ∧ (m_get σ 6 0 0 = .inl (Int32.ofInt (-1))) ∧ (∀ k, k < 5 → m_get σ 6 (k + 1) 0 = .inl (Int32.ofNat k)) ∧ (∀ k, k < 120 → m_get σ 7 k 0 = .inl (Int32.ofNat k)) ∧ (∀ k, k < 3 → m_get σ 8 k 0 = .inl (Int32.ofNat k)) ∧ (∀ k, k < 2 → m_get σ 9 k 0 = rf 5 (2 + k)) ∧ (∀ k, k < 4 → m_get σ 5 k 0 = rf 13 (6 + 2 * k)) ∧ (∀ k, k < 4 → m_get σ 5 k 1 = rf 13 (7 + 2 * k))
def HS (σ : mS) : Prop := HSg σ ∧ HSa σ ∧ HSl σ ∧ HSn σ
theorem vp_2 {x : Int32} {n : Nat} (h : vp_in x n) : 0 ≤ x.toInt ∧ x.toInt < (n : Int) := ⟨(vp_ok.mp h).1, (vp_ok.mp h).2.1⟩
section HS1
variable {σ σ' : mS}
theorem HS_g0_0 (h : HS σ) : m_get σ 0 0 0 = rf 17 0 := h.1.1
theorem HS_g2_0 (h : HS σ) : m_get σ 2 0 0 = rf 16 0 := h.1.2.1
theorem HS_g2_1 (h : HS σ) : m_get σ 2 0 1 = rf 6 0 := h.1.2.2.1
theorem HS_g2_2 (h : HS σ) : m_get σ 2 0 2 = rf 18 0 := h.1.2.2.2.1
theorem HS_g2_3 (h : HS σ) : m_get σ 2 0 3 = rf 20 0 := h.1.2.2.2.2.1
theorem HS_g2_4 (h : HS σ) : m_get σ 2 0 4 = rf 21 0 := h.1.2.2.2.2.2.1
theorem HS_g3_0 (h : HS σ) : m_get σ 3 0 0 = rf 13 4 := h.1.2.2.2.2.2.2.1
theorem HS_g3_1 (h : HS σ) : m_get σ 3 0 1 = rf 13 5 := h.1.2.2.2.2.2.2.2.1
theorem HS_g3_2 (h : HS σ) : m_get σ 3 0 2 = rf 19 0 := h.1.2.2.2.2.2.2.2.2.1
theorem HS_g4_0 (h : HS σ) : m_get σ 4 0 0 = rf 0 0 := h.1.2.2.2.2.2.2.2.2.2.1
theorem HS_g4_1 (h : HS σ) : m_get σ 4 0 1 = rf 2 0 := h.1.2.2.2.2.2.2.2.2.2.2.1
theorem HS_g11_0 (h : HS σ) : m_get σ 11 0 0 = rf 4 0 := h.1.2.2.2.2.2.2.2.2.2.2.2.1
theorem HS_g11_1 (h : HS σ) : m_get σ 11 0 1 = rf 3 0 := h.1.2.2.2.2.2.2.2.2.2.2.2.2
theorem HS_l16_0 (h : HS σ) : σ.2.1 16 0 = 5 := h.2.2.1.1
theorem HS_l17_0 (h : HS σ) : σ.2.1 17 0 = 120 := h.2.2.1.2.1
theorem HS_l18_0 (h : HS σ) : σ.2.1 18 0 = 3 := h.2.2.1.2.2.1
theorem HS_l19_0 (h : HS σ) : σ.2.1 19 0 = 2 := h.2.2.1.2.2.2.1
theorem HS_l20_0 (h : HS σ) : σ.2.1 20 0 = 200 := h.2.2.1.2.2.2.2.1
theorem HS_l21_0 (h : HS σ) : σ.2.1 21 0 = 4 := h.2.2.1.2.2.2.2.2.1
theorem HS_l13_4 (h : HS σ) : σ.2.1 13 4 = 30 := h.2.2.1.2.2.2.2.2.2.1
theorem HS_l13_5 (h : HS σ) : σ.2.1 13 5 = 30 := h.2.2.1.2.2.2.2.2.2.2.1
theorem HS_ln13 (h : HS σ) {k : Nat} (hk : k < 4) : σ.2.1 13 k = 3 := h.2.2.1.2.2.2.2.2.2.2.2.1 k hk
theorem HS_ln14 (h : HS σ) {k : Nat} (hk : k < 6) : σ.2.1 14 k = 3 := h.2.2.1.2.2.2.2.2.2.2.2.2.1 k hk
theorem HS_ln5 (h : HS σ) {k : Nat} (hk : k < 4) : σ.2.1 13 (6 + 2 * k) = 480 ∧ σ.2.1 13 (7 + 2 * k) = 480 := h.2.2.1.2.2.2.2.2.2.2.2.2.2 k hk
theorem HS_e16 (h : HS σ) {k : Nat} (hk : k < 5) : m_get σ 16 0 k = rf 6 (k + 1) := h.2.1.1 k hk
theorem HS_v16 (h : HS σ) {x : Int32} (v : vp_in x (σ.2.1 16 0)) : 0 ≤ x.toInt ∧ x.toInt < 5 := by
  rw [HS_l16_0 h] at v
  exact vp_2 v
theorem HS_a16 (h : HS σ) {x : Int32} (v : vp_in x (σ.2.1 16 0)) : m_get σ 16 0 x.toNatClampNeg = rf 6 (x.toNatClampNeg + 1) := by
  have g := HS_v16 h v
  have e := i_nat g.1
  exact HS_e16 h (by omega)
theorem HS_e17 (h : HS σ) {k : Nat} (hk : k < 120) : m_get σ 17 0 k = rf 7 k := h.2.1.2.1 k hk
theorem HS_v17 (h : HS σ) {x : Int32} (v : vp_in x (σ.2.1 17 0)) : 0 ≤ x.toInt ∧ x.toInt < 120 := by
  rw [HS_l17_0 h] at v
  exact vp_2 v
theorem HS_a17 (h : HS σ) {x : Int32} (v : vp_in x (σ.2.1 17 0)) : m_get σ 17 0 x.toNatClampNeg = rf 7 x.toNatClampNeg := by
  have g := HS_v17 h v
  have e := i_nat g.1
  exact HS_e17 h (by omega)
theorem HS_e18 (h : HS σ) {k : Nat} (hk : k < 3) : m_get σ 18 0 k = rf 8 k := h.2.1.2.2.1 k hk
theorem HS_v18 (h : HS σ) {x : Int32} (v : vp_in x (σ.2.1 18 0)) : 0 ≤ x.toInt ∧ x.toInt < 3 := by
  rw [HS_l18_0 h] at v
  exact vp_2 v
theorem HS_a18 (h : HS σ) {x : Int32} (v : vp_in x (σ.2.1 18 0)) : m_get σ 18 0 x.toNatClampNeg = rf 8 x.toNatClampNeg := by
  have g := HS_v18 h v
  have e := i_nat g.1
  exact HS_e18 h (by omega)
theorem HS_e19 (h : HS σ) {k : Nat} (hk : k < 2) : m_get σ 19 0 k = rf 9 k := h.2.1.2.2.2.1 k hk
theorem HS_v19 (h : HS σ) {x : Int32} (v : vp_in x (σ.2.1 19 0)) : 0 ≤ x.toInt ∧ x.toInt < 2 := by
  rw [HS_l19_0 h] at v
  exact vp_2 v
theorem HS_a19 (h : HS σ) {x : Int32} (v : vp_in x (σ.2.1 19 0)) : m_get σ 19 0 x.toNatClampNeg = rf 9 x.toNatClampNeg := by
  have g := HS_v19 h v
  have e := i_nat g.1
  exact HS_e19 h (by omega)
theorem HS_e20 (h : HS σ) {k : Nat} (hk : k < 200) : m_get σ 20 0 k = rf 10 k := h.2.1.2.2.2.2.1 k hk
theorem HS_v20 (h : HS σ) {x : Int32} (v : vp_in x (σ.2.1 20 0)) : 0 ≤ x.toInt ∧ x.toInt < 200 := by
  rw [HS_l20_0 h] at v
  exact vp_2 v
theorem HS_a20 (h : HS σ) {x : Int32} (v : vp_in x (σ.2.1 20 0)) : m_get σ 20 0 x.toNatClampNeg = rf 10 x.toNatClampNeg := by
  have g := HS_v20 h v
  have e := i_nat g.1
  exact HS_e20 h (by omega)
theorem HS_e21 (h : HS σ) {k : Nat} (hk : k < 4) : m_get σ 21 0 k = rf 13 k := h.2.1.2.2.2.2.2 k hk
theorem HS_v21 (h : HS σ) {x : Int32} (v : vp_in x (σ.2.1 21 0)) : 0 ≤ x.toInt ∧ x.toInt < 4 := by
  rw [HS_l21_0 h] at v
  exact vp_2 v
theorem HS_a21 (h : HS σ) {x : Int32} (v : vp_in x (σ.2.1 21 0)) : m_get σ 21 0 x.toNatClampNeg = rf 13 x.toNatClampNeg := by
  have g := HS_v21 h v
  have e := i_nat g.1
  exact HS_e21 h (by omega)
theorem HS_p6 (h : HS σ) : ∀ k, k < 6 → m_get σ 6 k 1 = rf 14 k := h.2.2.2.1
theorem HS_n60 (h : HS σ) : m_get σ 6 0 0 = .inl (Int32.ofInt (-1)) := h.2.2.2.2.1
theorem HS_n6 (h : HS σ) : ∀ k, k < 5 → m_get σ 6 (k + 1) 0 = .inl (Int32.ofNat k) := h.2.2.2.2.2.1
theorem HS_n7 (h : HS σ) : ∀ k, k < 120 → m_get σ 7 k 0 = .inl (Int32.ofNat k) := h.2.2.2.2.2.2.1
theorem HS_n8 (h : HS σ) : ∀ k, k < 3 → m_get σ 8 k 0 = .inl (Int32.ofNat k) := h.2.2.2.2.2.2.2.1
theorem HS_c9 (h : HS σ) : ∀ k, k < 2 → m_get σ 9 k 0 = rf 5 (2 + k) := h.2.2.2.2.2.2.2.2.1
theorem HS_k5 (h : HS σ) : ∀ k, k < 4 → m_get σ 5 k 0 = rf 13 (6 + 2 * k) := h.2.2.2.2.2.2.2.2.2.1
theorem HS_q5 (h : HS σ) : ∀ k, k < 4 → m_get σ 5 k 1 = rf 13 (7 + 2 * k) := h.2.2.2.2.2.2.2.2.2.2
theorem HS_of (h : HS σ) (g : fw_e hpS σ σ') : HS σ' := by
  refine ⟨⟨(g.get rfl).trans (HS_g0_0 h), (g.get rfl).trans (HS_g2_0 h), (g.get rfl).trans (HS_g2_1 h), (g.get rfl).trans (HS_g2_2 h), (g.get rfl).trans (HS_g2_3 h), (g.get rfl).trans (HS_g2_4 h), (g.get rfl).trans (HS_g3_0 h), (g.get rfl).trans (HS_g3_1 h), (g.get rfl).trans (HS_g3_2 h), (g.get rfl).trans (HS_g4_0 h), (g.get rfl).trans (HS_g4_1 h), (g.get rfl).trans (HS_g11_0 h), (g.get rfl).trans (HS_g11_1 h)⟩, ⟨fun k hk => (g.get rfl).trans (HS_e16 h hk), fun k hk => (g.get rfl).trans (HS_e17 h hk), fun k hk => (g.get rfl).trans (HS_e18 h hk), fun k hk => (g.get rfl).trans (HS_e19 h hk), fun k hk => (g.get rfl).trans (HS_e20 h hk), fun k hk => (g.get rfl).trans (HS_e21 h hk)⟩, ⟨(g.1 16 0 (Nat.le_of_ble_eq_true rfl)).trans (HS_l16_0 h), (g.1 17 0 (Nat.le_of_ble_eq_true rfl)).trans (HS_l17_0 h), (g.1 18 0 (Nat.le_of_ble_eq_true rfl)).trans (HS_l18_0 h), (g.1 19 0 (Nat.le_of_ble_eq_true rfl)).trans (HS_l19_0 h), (g.1 20 0 (Nat.le_of_ble_eq_true rfl)).trans (HS_l20_0 h), (g.1 21 0 (Nat.le_of_ble_eq_true rfl)).trans (HS_l21_0 h), (g.1 13 4 (Nat.le_of_ble_eq_true rfl)).trans (HS_l13_4 h), (g.1 13 5 (Nat.le_of_ble_eq_true rfl)).trans (HS_l13_5 h), fun k hk => (g.1 13 k (Nat.le_of_ble_eq_true rfl)).trans (HS_ln13 h hk), fun k hk => (g.1 14 k (Nat.le_of_ble_eq_true rfl)).trans (HS_ln14 h hk), fun k hk => ⟨(g.1 13 _ (Nat.le_of_ble_eq_true rfl)).trans (HS_ln5 h hk).1, (g.1 13 _ (Nat.le_of_ble_eq_true rfl)).trans (HS_ln5 h hk).2⟩⟩, ⟨fun k hk => (g.get rfl).trans (HS_p6 h k hk), (g.get rfl).trans (HS_n60 h), fun k hk => (g.get rfl).trans (HS_n6 h k hk), fun k hk => (g.get rfl).trans (HS_n7 h k hk), fun k hk => (g.get rfl).trans (HS_n8 h k hk), fun k hk => (g.get rfl).trans (HS_c9 h k hk), fun k hk => (g.get rfl).trans (HS_k5 h k hk), fun k hk => (g.get rfl).trans (HS_q5 h k hk)⟩⟩
theorem HS_set {c i k : Nat} {v : mV} (h : HS σ) (e : fwh hpS c k = false) : HS (m_set σ c i k v) := HS_of h (fw_set e)
theorem HS_nu {c n : Nat} (h : HS σ) (hc : (List.range 16).any (hpS c) = false ∧ c < 13) : HS (m_nu σ c n) := by
  refine HS_of h ⟨fun c' i h' => m_nu_len σ (fun z => by omega), fun c' i k hk => ?_⟩
  by_cases e : c' = c
  · rw [e, fwh_any hc.2 hc.1] at hk
    cases hk
  · exact m_nu_i e
def Shs : List Nat := [1, 2, 3, 4, 5, 6, 7, 8, 9, 10, 11, 12, 13, 14, 15, 16, 17, 18, 19, 21, 22, 23, 24, 25, 26, 27, 28, 29, 30, 31, 32, 33, 34, 35, 36, 37, 38, 39, 40, 41, 42, 43, 44, 45, 46, 47, 48, 49, 51, 52, 53, 54, 55, 56, 57, 59, 60, 61, 62, 63, 64, 65, 66, 67, 68, 69, 70, 71, 72, 73, 74, 75, 76, 78, 79, 80, 81, 82, 83, 84, 85, 86, 87, 89, 90, 91, 92, 93, 94, 95, 96, 98, 99, 100, 101, 102, 103, 104, 105, 106, 107, 108, 109, 111, 112, 113, 114, 115, 116, 117, 118, 120, 121, 122, 124, 125, 126, 127, 128, 129, 130, 131, 132, 133, 134, 135, 136, 137, 138, 139, 140, 141, 142, 143, 144, 145, 146, 147, 148, 149, 150, 151, 152, 153, 154, 155, 156, 158, 159, 160, 161, 162, 163, 164, 165, 166, 167, 168, 169, 170, 190]
theorem Shs_ok : fw_S hpS Shs = true := by decide +kernel
theorem HS_run {j : Nat} {avs : List mV} {x : mX} (hj : Shs.any (Nat.beq j) = true) (r : ev_run sm_all j avs σ x σ') (h : HS σ) : HS σ' := HS_of h (fw_run Shs_ok hj r)
end HS1
def jmax (x y : Int32) : Int32 := if x < y then y else x
def jmin (x y : Int32) : Int32 := if y < x then y else x
def jabs (x : Int32) : Int32 := if 0 ≤ x then x else 0 - x
def lmin (x y : Int64) : Int64 := if y < x then y else x
def lmax (x y : Int64) : Int64 := if y < x then x else y
theorem sto_ex (L : List (Option mV)) (i : Nat) (x : mV) (h : 0 < i) : ∃ y, m_sto L i x = (L.set (i - 1) y).set i (some x) := by
  cases i with
  | zero => exact absurd h (by decide)
  | succ k =>
    show ∃ y, (m_clr L (k + 1)).set (k + 1) (some x) = (L.set k y).set (k + 1) (some x)
    unfold m_clr
    dsimp only
    have keep : ∃ y, L = L.set k y := by
      cases hk : L[k]? with
      | none => exact ⟨none, (List.set_eq_of_length_le (by rw [List.getElem?_eq_none_iff] at hk; exact hk)).symm⟩
      | some w => exact ⟨w, by
          obtain ⟨h1, h2⟩ := List.getElem?_eq_some_iff.mp hk
          rw [← h2]
          exact (List.set_getElem_self h1).symm⟩
    split
    · exact ⟨none, rfl⟩
    · obtain ⟨y, e⟩ := keep
      exact ⟨y, by rw [← e]⟩
theorem sto_ex2 (L : List (Option mV)) (i : Nat) (x : mV) (h : 0 < i) : ∃ y, m_sto2 L i x = ((L.set (i - 1) y).set i (some x)).set (i + 1) none := by
  obtain ⟨y, e⟩ := sto_ex L i x h
  exact ⟨y, by unfold m_sto2; rw [e]⟩
theorem r_cs (r : mR) : r = none ∨ ∃ q, r = some q := by
  rcases r with _ | q
  · exact Or.inl rfl
  · exact Or.inr ⟨q, rfl⟩
section EI3
variable {F f j : Nat} {z : mAl} {pc : Nat} {L : List (Option mV)} {st : List mV} {σ : mS} {q : mX × mS}
theorem ei_gp {i : Nat} {e : Nat × Nat × Nat × Int × List Nat} {r : mR} (h : EV F f j z pc L (.inr (.inr r) :: st) σ q) (hr : m_at z.2.1 pc = some (.getfield i, e)) : ∃ x, r = some (e.2.1, x) := by
  obtain ⟨k, n, h⟩ := h
  obtain ⟨f', rfl, o, o1, o2⟩ := ei h
  unfold ev_st ev_nf at o1
  dsimp only at o1
  rw [hr] at o1
  dsimp only at o1
  rcases r with _ | p
  · cases o1
  · by_cases hp : p.1 = e.2.1
    · exact ⟨p.2, by rw [← hp]⟩
    · have : ev_get (.getfield i, e) σ (.inr (.inr (some p)) :: st) = none := if_neg hp
      rw [this] at o1
      cases o1
theorem ei_pp {i : Nat} {e : Nat × Nat × Nat × Int × List Nat} {r : mR} {v : mV} (h : EV F f j z pc L (v :: .inr (.inr r) :: st) σ q) (hr : m_at z.2.1 pc = some (.putfield i, e)) : ∃ x, r = some (e.2.1, x) := by
  obtain ⟨k, n, h⟩ := h
  obtain ⟨f', rfl, o, o1, o2⟩ := ei h
  unfold ev_st ev_nf at o1
  dsimp only at o1
  rw [hr] at o1
  dsimp only at o1
  rcases r with _ | p
  · cases o1
  · by_cases hp : p.1 = e.2.1
    · exact ⟨p.2, by rw [← hp]⟩
    · have : ev_put (.putfield i, e) σ (v :: .inr (.inr (some p)) :: st) = none := if_neg (fun z => hp z.1)
      rw [this] at o1
      cases o1
theorem ei_vp {i : Nat} {e : Nat × Nat × Nat × Int × List Nat} {r : mR} {as : List mV} (h : EV F f j z pc L (as ++ .inr (.inr r) :: st) σ q) (hr : m_at z.2.1 pc = some (.invokevirtual i, e)) (ha : as.length = e.2.2.1) : ∃ x, r = some (m_p (.invokevirtual i, e) 5, x) := by
  obtain ⟨k, n, h⟩ := h
  obtain ⟨f', rfl, o, o1, o2⟩ := ei h
  unfold ev_st ev_nf at o1
  dsimp only at o1
  rw [hr] at o1
  dsimp only at o1
  obtain ⟨-, o1⟩ := ev_if_some.mp o1
  cases hy : m_mt[e.2.1]? with
  | none => rw [hy] at o1; cases o1
  | some y =>
    rw [hy] at o1
    dsimp only at o1
    unfold ev_callV at o1
    have e1 : (as ++ (.inr (.inr r) : mV) :: st).drop e.2.2.1 = .inr (.inr r) :: st := by rw [← ha, List.drop_left]
    rw [e1] at o1
    rcases r with _ | p
    · cases o1
    · dsimp only at o1
      obtain ⟨⟨p1, -⟩, -⟩ := ev_if_some.mp o1
      exact ⟨p.2, by rw [← p1]⟩
theorem ei_lp {e : Nat × Nat × Nat × Int × List Nat} {r : mR} (h : EV F f j z pc L (.inr (.inr r) :: st) σ q) (hr : m_at z.2.1 pc = some (.arraylength, e)) : ∃ c x, r = some (c, x) ∧ (13 ≤ c ∧ c ≤ 21) := by
  obtain ⟨k, n, h⟩ := h
  obtain ⟨f', rfl, o, o1, o2⟩ := ei h
  unfold ev_st ev_nf at o1
  dsimp only at o1
  rw [hr] at o1
  dsimp only at o1
  rcases r with _ | p
  · cases o1
  · refine ⟨p.1, p.2, rfl, ?_⟩
    cases hx : m_isx (.inr (.inr (some p)) :: st) 0 with
    | true =>
      rw [hx] at o1
      cases o1
    | false =>
      rw [hx] at o1
      dsimp only [cond_false] at o1
      by_cases hp : 13 ≤ p.1 ∧ p.1 ≤ 21
      · exact hp
      · have : ev_len σ (.inr (.inr (some p)) :: st) = none := if_neg hp
        rw [this] at o1
        cases o1
theorem ei_iap {e : Nat × Nat × Nat × Int × List Nat} {r : mR} {v : Int32} (h : EV F f j z pc L (.inl v :: .inr (.inr r) :: st) σ q) (hr : m_at z.2.1 pc = some (.iaload, e)) : ∃ x, r = some (13, x) := by
  obtain ⟨k, n, h⟩ := h
  obtain ⟨f', rfl, o, o1, o2⟩ := ei h
  unfold ev_st ev_nf at o1
  dsimp only at o1
  rw [hr] at o1
  dsimp only at o1
  rcases r with _ | p
  · cases o1
  · cases hx : m_isx (.inl v :: .inr (.inr (some p)) :: st) 1 with
    | true => rw [hx] at o1; cases o1
    | false =>
      rw [hx] at o1
      dsimp only [cond_false] at o1
      by_cases hp : p.1 = 13
      · exact ⟨p.2, by rw [← hp]⟩
      · have : ev_ald 13 σ (.inl v :: .inr (.inr (some p)) :: st) = none := if_neg (fun z => hp z.1)
        rw [this] at o1
        cases o1
theorem ei_lap {e : Nat × Nat × Nat × Int × List Nat} {r : mR} {v : Int32} (h : EV F f j z pc L (.inl v :: .inr (.inr r) :: st) σ q) (hr : m_at z.2.1 pc = some (.laload, e)) : ∃ x, r = some (14, x) := by
  obtain ⟨k, n, h⟩ := h
  obtain ⟨f', rfl, o, o1, o2⟩ := ei h
  unfold ev_st ev_nf at o1
  dsimp only at o1
  rw [hr] at o1
  dsimp only at o1
  rcases r with _ | p
  · cases o1
  · by_cases hp : p.1 = 14
    · exact ⟨p.2, by rw [← hp]⟩
    · have : ev_ald 14 σ (.inl v :: .inr (.inr (some p)) :: st) = none := if_neg (fun z => hp z.1)
      rw [this] at o1
      cases o1
theorem ei_alc14 {e : Nat × Nat × Nat × Int × List Nat} {c x : Nat} {v : Int32} (h : EV F f j z pc L (.inl v :: .inr (.inr (some (c, x))) :: st) σ q) (hr : m_at z.2.1 pc = some (.laload, e)) : c = 14 := by
  obtain ⟨y, hy⟩ := ei_lap h hr
  cases hy
  rfl
theorem ei_alc13 {e : Nat × Nat × Nat × Int × List Nat} {c x : Nat} {v : Int32} (h : EV F f j z pc L (.inl v :: .inr (.inr (some (c, x))) :: st) σ q) (hr : m_at z.2.1 pc = some (.iaload, e)) : c = 13 := by
  obtain ⟨y, hy⟩ := ei_iap h hr
  cases hy
  rfl
theorem ei_isp {e : Nat × Nat × Nat × Int × List Nat} {r : mR} {u v : Int32} (h : EV F f j z pc L (.inl u :: .inl v :: .inr (.inr r) :: st) σ q) (hr : m_at z.2.1 pc = some (.iastore, e)) : ∃ x, r = some (13, x) := by
  obtain ⟨k, n, h⟩ := h
  obtain ⟨f', rfl, o, o1, o2⟩ := ei h
  unfold ev_st ev_nf at o1
  dsimp only at o1
  rw [hr] at o1
  dsimp only at o1
  rcases r with _ | p
  · cases o1
  · by_cases hp : p.1 = 13
    · exact ⟨p.2, by rw [← hp]⟩
    · have : ev_iast σ (.inl u :: .inl v :: .inr (.inr (some p)) :: st) = none := if_neg (fun z => hp z.1)
      rw [this] at o1
      cases o1
theorem ei_lsp {e : Nat × Nat × Nat × Int × List Nat} {r : mR} {u : Int64} {v : Int32} (h : EV F f j z pc L (.inr (.inl u) :: .inl v :: .inr (.inr r) :: st) σ q) (hr : m_at z.2.1 pc = some (.lastore, e)) : ∃ x, r = some (14, x) := by
  obtain ⟨k, n, h⟩ := h
  obtain ⟨f', rfl, o, o1, o2⟩ := ei h
  unfold ev_st ev_nf at o1
  dsimp only at o1
  rw [hr] at o1
  dsimp only at o1
  rcases r with _ | p
  · cases o1
  · by_cases hp : p.1 = 14
    · exact ⟨p.2, by rw [← hp]⟩
    · have : ev_last σ (.inr (.inl u) :: .inl v :: .inr (.inr (some p)) :: st) = none := if_neg (fun z => hp z.1)
      rw [this] at o1
      cases o1
theorem ei_sw {d lo hi : Int} {offs : Array Int} {e : Nat × Nat × Nat × Int × List Nat} {x : Int32} (h : EV F f j z pc L (.inl x :: st) σ q) (hr : m_at z.2.1 pc = some (.tableswitch d lo hi offs, e)) : ((x.toInt < lo ∨ hi < x.toInt) ∧ ∃ f', f' < f ∧ EV F f' j z ((pc : Int) + d).toNat L st σ q) ∨ ∃ m : Nat, x.toInt = lo + m ∧ ∃ o, offs[m]? = some o ∧ ∃ f', f' < f ∧ EV F f' j z ((pc : Int) + o).toNat L st σ q := by
  by_cases c : x.toInt < lo ∨ hi < x.toInt
  · obtain ⟨f', g, h⟩ := ei_p h hr rfl rfl (by show (if x.toInt < lo ∨ hi < x.toInt then some (((pc : Int) + d).toNat, L, st) else _) = some _; rw [if_pos c])
    exact Or.inl ⟨c, f', g, h⟩
  · cases ho : offs[(x.toInt - lo).toNat]? with
    | none =>
      exact absurd ⟨rfl, by show (if x.toInt < lo ∨ hi < x.toInt then _ else match offs[(x.toInt - lo).toNat]? with | some o => some (((pc : Int) + o).toNat, L, st) | none => none) = none; rw [if_neg c, ho]⟩ (ei_ok h hr rfl)
    | some o =>
      obtain ⟨f', g, h⟩ := ei_p h hr rfl rfl (by show (if x.toInt < lo ∨ hi < x.toInt then _ else match offs[(x.toInt - lo).toNat]? with | some o => some (((pc : Int) + o).toNat, L, st) | none => none) = some _; rw [if_neg c, ho])
      exact Or.inr ⟨(x.toInt - lo).toNat, by omega, o, ho, f', g, h⟩
theorem ei_new {i : Nat} {e : Nat × Nat × Nat × Int × List Nat} (h : EV F f j z pc L st σ q) (hr : m_at z.2.1 pc = some (.new i, e)) (hc : e.2.1 < 13) : ∃ f', f' < f ∧ EV F f' j z (pc + 3) L (.inr (.inr (some (e.2.1, σ.1 e.2.1))) :: st) (m_nu σ e.2.1 0) q := by
  obtain ⟨k, n, h⟩ := h
  obtain ⟨f', rfl, o, o1, o2⟩ := ei h
  unfold ev_st ev_nf at o1
  dsimp only at o1
  rw [hr] at o1
  dsimp only at o1
  rw [if_pos hc] at o1
  obtain ⟨-, o1⟩ := ev_if_some.mp o1
  cases o1
  exact ⟨f', Nat.lt_succ_self _, _, _, o2⟩
theorem ei_thr {i : Nat} {e : Nat × Nat × Nat × Int × List Nat} (h : EV F f j z pc L st σ q) (hr : m_at z.2.1 pc = some (.new i, e)) (hc : ¬ e.2.1 < 13) : q = (.inr (e.2.1 - 100), σ) := by
  obtain ⟨k, n, h⟩ := h
  obtain ⟨f', rfl, o, o1, o2⟩ := ei h
  unfold ev_st ev_nf at o1
  dsimp only at o1
  rw [hr] at o1
  dsimp only at o1
  rw [if_neg hc] at o1
  obtain ⟨-, o1⟩ := ev_if_some.mp o1
  cases o1
  exact o2.symm
theorem ei_obj {i : Nat} {ln rb : Nat} {rz : Int} {rp : List Nat} {v : mV} (h : EV F f j z pc L (v :: st) σ q) (hr : m_at z.2.1 pc = some (.invokespecial i, ln, 2000, rb, rz, rp)) : ∃ f', f' < f ∧ EV F f' j z (pc + 3) L st σ q := by
  obtain ⟨k, n, h⟩ := h
  obtain ⟨f', rfl, o, o1, o2⟩ := ei h
  unfold ev_st ev_nf at o1
  dsimp only at o1
  rw [hr] at o1
  dsimp only at o1
  obtain ⟨-, o1⟩ := ev_if_some.mp o1
  rw [if_pos rfl] at o1
  rcases v with v | v | _ | v
  · cases o1
  · cases o1
  · cases o1
  · cases hx : ev_obj z.1.2.2.2.2.1 (.inr (.inr (some v)) :: st) with
    | none => rw [hx] at o1; cases o1
    | some y =>
      obtain ⟨-, g⟩ := ev_if_some.mp hx
      cases g
      rw [hx] at o1
      cases o1
      exact ⟨f', Nat.lt_succ_self _, _, _, o2⟩
theorem ei_x {i : Nat} {e : Nat × Nat × Nat × Int × List Nat} {p : Nat × Nat} {as : List mV} (h : EV F f j z pc L (as ++ .inr (.inr (some p)) :: st) σ q) (hr : m_at z.2.1 pc = some (.invokespecial i, e)) (ha : as.length = e.2.2.1) (hh : z.1.2.2.2.2.2 = []) (h2 : ¬ e.2.1 = 2000 := by decide) : ev_bk F f j z pc L st σ q e.2.1 (.inr (.inr (some p)) :: as.reverse) := by
  obtain ⟨k, n, h⟩ := h
  obtain ⟨f', rfl, o, o1, o2⟩ := ei h
  unfold ev_st ev_nf at o1
  dsimp only at o1
  rw [hr] at o1
  dsimp only at o1
  obtain ⟨-, o1⟩ := ev_if_some.mp o1
  rw [if_neg h2] at o1
  cases hy : m_mt[e.2.1]? with
  | none => rw [hy] at o1; cases o1
  | some y =>
    rw [hy] at o1
    dsimp only at o1
    unfold ev_callV at o1
    have e1 : (as ++ (.inr (.inr (some p)) : mV) :: st).drop e.2.2.1 = .inr (.inr (some p)) :: st := by rw [← ha, List.drop_left]
    have e2 : (as ++ (.inr (.inr (some p)) : mV) :: st).take e.2.2.1 = as := by rw [← ha, List.take_left]
    rw [e1] at o1
    dsimp only at o1
    obtain ⟨⟨p1, -⟩, o1⟩ := ev_if_some.mp o1
    unfold m_take at o1
    rw [e2, ← p1] at o1
    cases o1
    exact ei_bk hh (Nat.lt_succ_self _) o2
variable {c : Nat} {avs : List mV} {zc : mAl}
/-- a call that may throw -/
theorem bx_I (h : ev_bk F f j z pc L st σ q c avs) (hz : m_alF[c]? = some zc) (ht : zc.1.2.2.2.1 = some .int ∨ zc.1.2.2.2.1 = some .boolean) : (∃ (v : Int32) (σ1 : mS), ev_run sm_all c avs σ (.inl (some (.inl v))) σ1 ∧ ∃ f', f' < f ∧ EV F f' j z (pc + 3) L (.inl v :: st) σ1 q) ∨ ∃ (b : Nat) (σ1 : mS), ev_run sm_all c avs σ (.inr b) σ1 ∧ q = (.inr b, σ1) := by
  obtain ⟨x, σ1, r, ⟨v, rfl, g⟩ | ⟨b, rfl, e⟩⟩ := h
  · have t := ev_ty hz r
    rcases v with _ | y | y | y
    · have t : zc.1.2.2.2.1 = none := t
      rcases ht with e | e <;> rw [e] at t <;> cases t
    · exact Or.inl ⟨y, σ1, r, g⟩
    · have t : zc.1.2.2.2.1 = some .long := t
      rcases ht with e | e <;> rw [e] at t <;> cases t
    · have t : m_isr zc.1.2.2.2.1 = true := t
      rcases ht with e | e <;> rw [e] at t <;> cases t
  · exact Or.inr ⟨b, σ1, r, e⟩
theorem bx_L (h : ev_bk F f j z pc L st σ q c avs) (hz : m_alF[c]? = some zc) (ht : zc.1.2.2.2.1 = some .long) : (∃ (v : Int64) (σ1 : mS), ev_run sm_all c avs σ (.inl (some (.inr (.inl v)))) σ1 ∧ ∃ f', f' < f ∧ EV F f' j z (pc + 3) L (.inr (.inl v) :: st) σ1 q) ∨ ∃ (b : Nat) (σ1 : mS), ev_run sm_all c avs σ (.inr b) σ1 ∧ q = (.inr b, σ1) := by
  obtain ⟨x, σ1, r, ⟨v, rfl, g⟩ | ⟨b, rfl, e⟩⟩ := h
  · have t := ev_ty hz r
    rw [ht] at t
    rcases v with _ | y | y | y
    · cases t
    · rcases t with t | ⟨t, -⟩ <;> cases t
    · exact Or.inl ⟨y, σ1, r, g⟩
    · cases t
  · exact Or.inr ⟨b, σ1, r, e⟩
theorem bx_0 (h : ev_bk F f j z pc L st σ q c avs) (hz : m_alF[c]? = some zc) (ht : zc.1.2.2.2.1 = none) : (∃ (σ1 : mS), ev_run sm_all c avs σ (.inl none) σ1 ∧ ∃ f', f' < f ∧ EV F f' j z (pc + 3) L st σ1 q) ∨ ∃ (b : Nat) (σ1 : mS), ev_run sm_all c avs σ (.inr b) σ1 ∧ q = (.inr b, σ1) := by
  obtain ⟨x, σ1, r, ⟨v, rfl, g⟩ | ⟨b, rfl, e⟩⟩ := h
  · have t := ev_ty hz r
    rw [ht] at t
    rcases v with _ | y | y | y
    · exact Or.inl ⟨σ1, r, g⟩
    · rcases t with t | ⟨t, -⟩ <;> cases t
    · cases t
    · cases t
  · exact Or.inr ⟨b, σ1, r, e⟩
end EI3
