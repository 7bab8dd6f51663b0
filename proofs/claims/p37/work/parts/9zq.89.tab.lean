/-! the first hall's methods, of what a call performs, by runs with the guard -/
def ar_pf (j : Nat) : Bool := [3, 4, 5, 6, 8, 9, 10, 11, 12, 13, 14, 15, 16, 22, 23, 24, 25, 26, 27, 28, 29, 30, 31, 32, 34, 35, 36, 37, 38, 39, 40, 41, 42, 43, 44, 45, 46, 47, 48, 61, 62, 63, 64, 65, 66, 67, 68, 69, 70, 71, 72, 73, 74, 75, 76, 90, 91, 92, 95, 98, 99, 100, 102, 103, 104, 105, 106, 107, 112, 113, 114, 115, 116, 117].any (Nat.beq j)
def ar_L1 : List ac_Ct := ac_L0_1.filter (fun ct => ar_pf ct.1)
def ar_L2 : List ac_Ct := ac_L0_2.filter (fun ct => ar_pf ct.1)
def ar_L3 : List ac_Ct := ac_L0_3.filter (fun ct => ar_pf ct.1)
def ar_L4 : List ac_Ct := ac_L0_4.filter (fun ct => ar_pf ct.1)
def ar_L5 : List ac_Ct := ac_L0_5.filter (fun ct => ar_pf ct.1)
def ar_wc (g : ab_G) : Bool := Nat.beq g.1 0 || (Nat.beq g.1 2 || (Nat.beq g.1 6 || (Nat.beq g.1 7 || (Nat.beq g.1 8 || (Nat.beq g.1 10 || ((Nat.beq g.1 13 && Nat.ble g.2.2.1 3) || (Nat.beq g.1 14 && Nat.ble g.2.2.1 5)))))))
/-- all that a call may write -/
def ar_W61 : List ab_G := ac_K0.1.flatMap (fun l => l.filter ar_wc)
def ar_c61 : ac_Ct := (61, [(2, 4, 0, 0, 1, 1), (2, 1, 0, 511, 1, 1)], ar_W61, some (some (1, 0, (-9223372036854775808), 9223372036854775807, 0, 0)), [], [], none)
def ar_A2 : List ac_Ct := ar_L2 ++ ar_L1
def ar_A3 : List ac_Ct := ar_L3 ++ ar_A2
def ar_A4 : List ac_Ct := ar_L4 ++ ar_A3
def ar_A5 : List ac_Ct := ar_L5 ++ ar_A4
theorem ar_t1 : ar_L1.all (ar_chk sm_gb ac_K0 (fun _ => ac_SP0) ac_LP0 ac_PL ac_nc) = true := by decide +kernel
theorem ar_t2 : ar_L2.all (ar_chk sm_gb ac_K0 (fun kp => ac_SPt kp ar_L1) ac_LP0 ac_PL ac_nc) = true := by decide +kernel
theorem ar_t3 : ar_L3.all (ar_chk sm_gb ac_K0 (fun kp => ac_SPt kp ar_A2) ac_LP0 ac_PL ac_nc) = true := by decide +kernel
theorem ar_t4 : ar_L4.all (ar_chk sm_gb ac_K0 (fun kp => ac_SPt kp ar_A3) ac_LP0 ac_PL ac_nc) = true := by decide +kernel
theorem ar_t5 : ar_L5.all (ar_chk sm_gb ac_K0 (fun kp => ac_SPt kp ar_A4) ac_LP0 ac_PL ac_nc) = true := by decide +kernel
