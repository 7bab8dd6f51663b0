/-! rows of the methods, and that they are as the code and the tables have them -/
def rw_X9_init : List (Nat × mRow) := [(0, (.aload_n 0, 0, 0, 0, 0, [])), (1, (.invokespecial 1, 0, 2000, 0, 0, [397, 53, 0, 0, 54])), (4, (.aload_n 0, 0, 0, 0, 0, [])), (5, (.new 7, 0, 5, 0, 0, [398, 377, 37])), (8, (.dup, 0, 0, 0, 0, [])), (9, (.invokespecial 9, 0, 77, 0, 0, [399, 379, 0, 37, 380, 5])), (12, (.putfield 10, 0, 9, 0, 0, [400])), (15, (.return_, 0, 0, 0, 0, []))]
abbrev rm_X9_init : Room := { frames := 2, cells := 3, slots := 963, locals := 40 }
theorem ok_X9_init : ∀ q ∈ rw_X9_init, m_rowB m_mt RX9 true cX9_init rm_X9_init q = true := List.all_eq_true.mp (by decide +kernel)
