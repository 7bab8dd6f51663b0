theorem hs_fold_hy {B : Nat → Nat} : ∀ {cs : List Nat} {σ τ : mS}, hs_fold cs σ τ → hy B σ → hy B τ
  | [], _, _, h, g => by
    have e : _ = _ := h
    rw [← e]
    exact g
  | _ :: _, _, _, ⟨_, ⟨_, r⟩, h⟩, g => hs_fold_hy h (hy_run (by decide) r g)
