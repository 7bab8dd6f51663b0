/-! the law's own run: yes, or a stop -/
theorem s162x {G : Prop} {IV : mS → Prop} {u7 u8 : Int32} {τ : mS} {w : mX} {σ' : mS} (hS : ∀ t : Int, 0 ≤ t → t ≤ 61 → w = .inr 7 → PS IV t σ' → G) (q : T162 (Z214 IV G) (Z1091 IV G) u7 u8 τ w σ') : Z162 IV G u7 u8 τ := by
  intro h7 h8 p
  obtain ⟨n, N, c, k, h, l, iv, b1, b2, b3⟩ := p
  have e1 : (Int32.ofInt 44).toInt = 44 := by decide
  have e2 : (Int32.ofInt 60000).toInt = 60000 := by decide
  have e3 : (Int32.ofInt 70000).toInt = 70000 := by decide
  rcases q with ⟨_, q⟩ | ⟨a, ⟨z, _⟩ | ⟨_, ⟨ew, e⟩ | ⟨v3, r3, v7, r7, v11, r11, q⟩⟩⟩
  · exact q h7 ⟨h.1.1, l.gh⟩ iv
  · exact absurd z h7
  · rw [e] at hS
    exact hS _ h8.1 (by omega) ew ⟨n, N, c, k, h, l, iv, b1, b2, b3⟩
  · rw [e1] at r3
    rw [e2] at r7
    rw [e3] at r11
    exact q ⟨h8.1, by omega⟩ r3.1 r7 r11 ⟨n, N, c, k, h, l, iv, b1, b2, b3⟩
theorem LPs_allx {C : ec_C} (hC : CK C) {IV : mS → Prop} (hI : IVc IV) {G : Prop} {w : mX} {σ' : mS} (hG : OKw w → G) (hS : ∀ t : Int, 0 ≤ t → t ≤ 61 → w = .inr 7 → PS IV t σ' → G) : ∀ N, LPs C IV G w σ' N := by
  intro N
  induction N with
  | zero => exact ⟨fun f h => absurd h (Nat.not_lt_zero f), fun f h => absurd h (Nat.not_lt_zero f), fun f h => absurd h (Nat.not_lt_zero f), fun f h => absurd h (Nat.not_lt_zero f), fun f h => absurd h (Nat.not_lt_zero f), fun f h => absurd h (Nat.not_lt_zero f), fun f h => absurd h (Nat.not_lt_zero f), fun f h => absurd h (Nat.not_lt_zero f), fun f h => absurd h (Nat.not_lt_zero f), fun f h => absurd h (Nat.not_lt_zero f), fun f h => absurd h (Nat.not_lt_zero f), fun f h => absurd h (Nat.not_lt_zero f), fun f h => absurd h (Nat.not_lt_zero f), fun f h => absurd h (Nat.not_lt_zero f), fun f h => absurd h (Nat.not_lt_zero f), fun f h => absurd h (Nat.not_lt_zero f), fun f h => absurd h (Nat.not_lt_zero f)⟩
  | succ N ih =>
    obtain ⟨H162, H214, H409, H480, H525, H595, H623, H690, H714, H775, H801, H839, H896, H925, H944, H977, H1091⟩ := ih
    refine ⟨?_, ?_, ?_, ?_, ?_, ?_, ?_, ?_, ?_, ?_, ?_, ?_, ?_, ?_, ?_, ?_, ?_⟩
    · intro f hf a0 a1 a2 a3 a4 a5 a6 a7 a8 a9 a10 τ hl h
      exact s162x hS (t162 hC H214 H1091 f hf a0 a1 a2 a3 a4 a5 a6 a7 a8 a9 a10 τ hl h)
    · intro f hf a0 a1 a2 a3 a4 a5 a6 a7 a8 a9 a10 τ hl h
      exact s214 hI (t214 hC H409 H925 f hf a0 a1 a2 a3 a4 a5 a6 a7 a8 a9 a10 τ hl h)
    · intro f hf a0 a1 a2 a3 a4 a5 a6 a7 a8 a9 a10 τ hl h
      exact s409 hI (t409 hC H480 H595 f hf a0 a1 a2 a3 a4 a5 a6 a7 a8 a9 a10 τ hl h)
    · intro f hf a0 a1 a2 a3 a4 a5 a6 a7 a8 a9 τ hl h
      exact s480 (t480 hC H525 f hf a0 a1 a2 a3 a4 a5 a6 a7 a8 a9 τ hl h)
    · intro f hf a0 a1 a2 a3 a4 a5 a6 a7 a8 a9 τ hl h
      exact s525 hI (t525 hC H925 f hf a0 a1 a2 a3 a4 a5 a6 a7 a8 a9 τ hl h)
    · intro f hf a0 a1 a2 a3 a4 a5 a6 a7 a8 a9 a10 τ hl h
      exact s595 (t595 hC H623 H714 f hf a0 a1 a2 a3 a4 a5 a6 a7 a8 a9 a10 τ hl h)
    · intro f hf a0 a1 a2 a3 a4 a5 a6 a7 a8 a9 a10 τ hl h
      exact s623 hI (t623 hC H690 f hf a0 a1 a2 a3 a4 a5 a6 a7 a8 a9 a10 τ hl h)
    · intro f hf a0 a1 a2 a3 a4 a5 a6 a7 a8 a9 τ hl h
      exact s690 hI (t690 hC H925 f hf a0 a1 a2 a3 a4 a5 a6 a7 a8 a9 τ hl h)
    · intro f hf a0 a1 a2 a3 a4 a5 a6 a7 a8 a9 a10 τ hl h
      exact s714 hI (t714 hC H775 H925 f hf a0 a1 a2 a3 a4 a5 a6 a7 a8 a9 a10 τ hl h)
    · intro f hf a0 a1 a2 a3 a4 a5 a6 a7 a8 a9 a10 τ hl h
      exact s775 (t775 hC H801 f hf a0 a1 a2 a3 a4 a5 a6 a7 a8 a9 a10 τ hl h)
    · intro f hf a0 a1 a2 a3 a4 a5 a6 a7 a8 a9 a10 τ hl h
      exact s801 hI (t801 hC H839 f hf a0 a1 a2 a3 a4 a5 a6 a7 a8 a9 a10 τ hl h)
    · intro f hf a0 a1 a2 a3 a4 a5 a6 a7 a8 a9 τ hl h
      exact s839 (t839 hC H896 H925 f hf a0 a1 a2 a3 a4 a5 a6 a7 a8 a9 τ hl h)
    · intro f hf a0 a1 a2 a3 a4 a5 a6 a7 a8 a9 a10 τ hl h
      exact s896 hI (t896 hC H925 f hf a0 a1 a2 a3 a4 a5 a6 a7 a8 a9 a10 τ hl h)
    · intro f hf a0 a1 a2 a3 a4 a5 a6 a7 a8 a9 a10 τ hl h
      exact s925 hI (t925 hC H944 f hf a0 a1 a2 a3 a4 a5 a6 a7 a8 a9 a10 τ hl h)
    · intro f hf a0 a1 a2 a3 a4 a5 a6 a7 a8 a9 a10 τ hl h
      exact s944 hI (t944 hC H944 H977 f hf a0 a1 a2 a3 a4 a5 a6 a7 a8 a9 a10 τ hl h)
    · intro f hf a0 a1 a2 a3 a4 a5 a6 a7 a8 a9 a10 τ hl h
      exact s977 hI (t977 hC H162 f hf a0 a1 a2 a3 a4 a5 a6 a7 a8 a9 a10 τ hl h)
    · intro f hf a0 a1 a2 a3 a4 a5 a6 a7 a8 a9 a10 τ hl h
      exact s1091 hG (fun h7 => e1091 hC hl h7 h) (t1091 hC  f hf a0 a1 a2 a3 a4 a5 a6 a7 a8 a9 a10 τ hl h)
theorem b_allx {C : ec_C} (hC : CK C) {f : Nat} {σ0 : mS} {w : mX} {σ' : mS} (c0 : ∀ c, c ≠ 98 → σ0.1 c = 0) (r0 : ∀ c i k, m_r σ0 c i k = none) (h : EC C f 18 ab_main 0 [some (rf 98 0), none, none, none, none, none, none, none, none, none, none, none, none, none, none, none, none, none] [] σ0 (w, σ')) : OKw w ∨ w = .inr 7 := by
  obtain ⟨τ, n, nd, f', h⟩ := t0 (fun _ _ _ _ h => hC.1 _ _ _ _ _ (by decide) h) c0 r0 h
  obtain ⟨hp, -, hP⟩ := pb n nd rfl rfl rfl rfl rfl
  obtain ⟨v, σ2, r, hv, hs, hg, _⟩ := e35 hC hp h
  exact s35 hp ⟨v, σ2, r, hv, hP σ2 hs hg⟩ (t35 hC (LPs_allx hC IVt_c Or.inl (fun t a b e p => Or.inr e) (f' + 1)).1 f' (Nat.lt_succ_of_lt (Nat.lt_succ_self f')) _ _ _ _ _ _ _ _ _ _ _ _ ⟨hp.1.1.1, hp.2.2.gh⟩ h)
