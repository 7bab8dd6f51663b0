/-! the bench: instructions without heap -/
section ER1
variable {j : Nat} {z : mAl} {q : mX × mS} {pc : Nat} {r : mRow} {L : List (Option mV)} {st : List mV} {σ : mS} {k n : Nat}
def er_bareI (i : Instr) : Bool := match i with
  | .getfield _ => false
  | .putfield _ => false
  | .arraylength => false
  | .iaload => false
  | .laload => false
  | .baload => false
  | .aaload => false
  | .iastore => false
  | .lastore => false
  | .bastore => false
  | .aastore => false
  | .new _ => false
  | .newarray _ => false
  | .anewarray _ => false
  | .multianewarray _ _ => false
  | .invokevirtual _ => false
  | .invokespecial _ => false
  | .invokestatic _ => false
  | .ireturn => false
  | .lreturn => false
  | .areturn => false
  | .return_ => false
  | _ => true
theorem er_bare (hr : m_at z.2.1 pc = some r) (hb : er_bareI r.1 = true) : ev_st none z (pc, L, st, σ, k, n) = ev_bare r pc L st σ k n := by
  unfold ev_st ev_nf
  dsimp only
  rw [hr]
  obtain ⟨ig, ln, ra, rb, rz, rp⟩ := r
  cases ig <;> first | rfl | cases hb
end ER1
