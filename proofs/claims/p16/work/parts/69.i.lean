/-! the turn of a split, by computing: the class's half, the reference's half -/
theorem ac_s5B_00 : ac_s5B (0, 0) = true := by decide +kernel
theorem ac_s5B_01 : ac_s5B (0, 1) = true := by decide +kernel
theorem ac_s5B_02 : ac_s5B (0, 2) = true := by decide +kernel
theorem ac_s5B_10 : ac_s5B (1, 0) = true := by decide +kernel
theorem ac_s5B_11 : ac_s5B (1, 1) = true := by decide +kernel
theorem ac_s5B_12 : ac_s5B (1, 2) = true := by decide +kernel
theorem ac_s5B_20 : ac_s5B (2, 0) = true := by decide +kernel
theorem ac_s5B_21 : ac_s5B (2, 1) = true := by decide +kernel
theorem ac_s5B_22 : ac_s5B (2, 2) = true := by decide +kernel
theorem ac_s5A_all : ∀ k v : Nat, k < 3 → v < 3 → ac_s5A (k, v) = true
  | 0, 0, _, _ => ac_s5A_00
  | 0, 1, _, _ => ac_s5A_01
  | 0, 2, _, _ => ac_s5A_02
  | 1, 0, _, _ => ac_s5A_10
  | 1, 1, _, _ => ac_s5A_11
  | 1, 2, _, _ => ac_s5A_12
  | 2, 0, _, _ => ac_s5A_20
  | 2, 1, _, _ => ac_s5A_21
  | 2, 2, _, _ => ac_s5A_22
  | k + 3, _, h, _ => absurd h (by omega)
  | 0, v + 3, _, h => absurd h (by omega)
  | 1, v + 3, _, h => absurd h (by omega)
  | 2, v + 3, _, h => absurd h (by omega)
theorem ac_s5B_all : ∀ k v : Nat, k < 3 → v < 3 → ac_s5B (k, v) = true
  | 0, 0, _, _ => ac_s5B_00
  | 0, 1, _, _ => ac_s5B_01
  | 0, 2, _, _ => ac_s5B_02
  | 1, 0, _, _ => ac_s5B_10
  | 1, 1, _, _ => ac_s5B_11
  | 1, 2, _, _ => ac_s5B_12
  | 2, 0, _, _ => ac_s5B_20
  | 2, 1, _, _ => ac_s5B_21
  | 2, 2, _, _ => ac_s5B_22
  | k + 3, _, h, _ => absurd h (by omega)
  | 0, v + 3, _, h => absurd h (by omega)
  | 1, v + 3, _, h => absurd h (by omega)
  | 2, v + 3, _, h => absurd h (by omega)
