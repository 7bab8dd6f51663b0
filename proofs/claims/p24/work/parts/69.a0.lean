/-! the turns stretches by computing -/
def ac_segA (q : Nat × Nat) : Bool := ac_seg ac_CA q.1 q.2 (2, 0) 1 0
def ac_segB (q : Nat × Nat) : Bool := ac_seg ac_CB q.2 23 (2, 8) 0 60000
theorem ac_sB4 : ac_AB4.all ac_segB = true := by decide +kernel
