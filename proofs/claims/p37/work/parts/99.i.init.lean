/-! what a new hall holds -/
def cl_n (c : Nat) : Nat := if c = 6 then 6 else if c = 8 then 3 else if c = 10 then 200 else if c = 13 then 4 else if c = 14 then 6 else if c = 16 then 1 else if c = 18 then 1 else if c = 20 then 1 else if c = 21 then 1 else 0
/-- members, papers, trades, rows, by their first numbers -/
def cl_X (B : Nat → Nat) (τ : mS) : Prop :=
  (m_get τ 2 (B 2) 0 = rf 16 (B 16) ∧ m_get τ 2 (B 2) 1 = rf 6 (B 6) ∧ m_get τ 2 (B 2) 2 = rf 18 (B 18) ∧ m_get τ 2 (B 2) 3 = rf 20 (B 20) ∧ m_get τ 2 (B 2) 4 = rf 21 (B 21)) ∧
  (∀ m, m < 6 → m_get τ 6 (B 6 + m) 0 = .inl (if m = 0 then Int32.ofInt (-1) else Int32.ofNat (m - 1)) ∧ m_get τ 6 (B 6 + m) 1 = rf 14 (B 14 + m) ∧ (∀ f, f ≠ 0 → f ≠ 1 → m_get τ 6 (B 6 + m) f = hz 6 f) ∧ ∀ f, f < 3 → m_get τ 14 (B 14 + m) f = hz 14 f) ∧
  (∀ k, k < 5 → m_get τ 16 (B 16) k = rf 6 (B 6 + 1 + k)) ∧
  (∀ k, k < 3 → m_get τ 18 (B 18) k = rf 8 (B 8 + k) ∧ m_get τ 8 (B 8 + k) 0 = .inl (Int32.ofNat k) ∧ m_get τ 8 (B 8 + k) 6 = .inl 1 ∧ ∀ f, f ≠ 0 → f ≠ 6 → m_get τ 8 (B 8 + k) f = hz 8 f) ∧
  (∀ k, k < 200 → m_get τ 20 (B 20) k = rf 10 (B 10 + k)) ∧ (∀ k, k < 4 → m_get τ 21 (B 21) k = rf 13 (B 13 + k)) ∧
  (τ.2.1 16 (B 16) = 5 ∧ τ.2.1 18 (B 18) = 3 ∧ τ.2.1 20 (B 20) = 200 ∧ τ.2.1 21 (B 21) = 4 ∧ (∀ k, k < 4 → τ.2.1 13 (B 13 + k) = 3) ∧ ∀ m, m < 6 → τ.2.1 14 (B 14 + m) = 3)
set_option maxHeartbeats 2000000 in
theorem cl_run {σ : mS} {b : Nat} (hb : b < σ.1 2) : ∃ τ, ev_run sm_all 20 [rf 2 b] σ (.inl none) τ ∧ cl_X (fun c => if c = 2 then b else σ.1 c) τ ∧ (∀ c, τ.1 c = σ.1 c + cl_n c) ∧ og b σ τ := by
  obtain ⟨⟨d0, d1, d2, d3, d4⟩, ⟨h0, h1, h2, h3⟩, ⟨r1, r2⟩, l16, l14, l18, l20, l21, l13⟩ := csT_ok (σ := σ) (b := b)
  have hc := csT_1 (σ := σ) (b := b)
  have hog := csT_og (σ := σ) (b := b)
  generalize hs : csT σ b = s at *
  have c6 : s.1 6 = σ.1 6 + 1 := hc 6
  have c14 : s.1 14 = σ.1 14 + 1 := hc 14
  have c8 : s.1 8 = σ.1 8 := hc 8
  have c10 : s.1 10 = σ.1 10 := hc 10
  have loops : ∃ w, ER 20 z20s (54, [some (rf 2 b), some (.inl (Int32.ofNat 0))], [], s, 10 + 2 * 0, 14 * 0 + 238) w ∧ w.1 = .inl none ∧ cl_X (fun c => if c = 2 then b else σ.1 c) w.2 ∧ (∀ c, w.2.1 c = σ.1 c + cl_n c) ∧ og b σ w.2 := by
    refine mm_loop (σ := s) (a := σ.1 16) (b := b) (q := fun w => w.1 = .inl none ∧ cl_X (fun c => if c = 2 then b else σ.1 c) w.2 ∧ (∀ c, w.2.1 c = σ.1 c + cl_n c) ∧ og b σ w.2) d0 l16 (fun τ1 p1 => ?_) 5 0 s rfl ⟨fun c => ?_, fun c j _ => ?_, fun k hk => by omega, fun _ _ _ _ _ _ => rfl⟩
    rotate_left
    · by_cases e : c = 6
      · subst e; rfl
      · by_cases e2 : c = 14
        · subst e2; rfl
        · rw [if_neg e, if_neg e2]
    · rw [if_neg (fun z => by omega)]
    obtain ⟨a1, a2, a3, a4⟩ := p1
    have t1 : ∀ k, m_get τ1 2 b k = m_get s 2 b k := fun k => a4 2 b k (fun z => by cases z.1) (fun z => by cases z.1) (fun z => by cases z.1)
    obtain ⟨w, g1, g2⟩ := pp_loop (σ := τ1) (a := σ.1 18) (b := b) (q := fun w => w.1 = .inl none ∧ cl_X (fun c => if c = 2 then b else σ.1 c) w.2 ∧ (∀ c, w.2.1 c = σ.1 c + cl_n c) ∧ og b σ w.2) ((t1 2).trans d2) (by rw [a2 18 _ (by decide), if_neg (fun z => by cases z.1)]; exact l18) (fun τ2 p2 => by
      obtain ⟨b1, b2, b3, b4⟩ := p2
      have t2 : ∀ k, m_get τ2 2 b k = m_get s 2 b k := fun k => (b4 2 b k (fun z => by cases z.1) (fun z => by cases z.1)).trans (t1 k)
      obtain ⟨τ3, g1, p3⟩ := td_loop (σ := τ2) (a := σ.1 20) (b := b) ((t2 3).trans d3) (by rw [b2 20 _ (by decide), a2 20 _ (by decide), if_neg (fun z => by cases z.1)]; exact l20) 200 0 τ2 rfl ⟨fun c => by
        by_cases e : c = 10
        · subst e; rfl
        · rw [if_neg e], fun _ _ _ => rfl, fun k hk => by omega, fun _ _ _ _ _ => rfl⟩
      obtain ⟨e1, e2, e3, e4⟩ := p3
      have k1 : ∀ c, τ1.1 c = if c = 6 then s.1 6 + 5 else if c = 14 then s.1 14 + 5 else s.1 c := a1
      have k2 : ∀ c, τ2.1 c = if c = 8 then τ1.1 8 + 3 else τ1.1 c := b1
      have k3 : ∀ c, τ3.1 c = if c = 10 then τ2.1 10 + 200 else τ2.1 c := e1
      have n8 : τ1.1 8 = σ.1 8 := (k1 8).trans c8
      have n10 : τ2.1 10 = σ.1 10 := ((k2 10).trans (k1 10)).trans c10
      -- what later loops leave
      have s3 : ∀ c j k, c ≠ 20 → c ≠ 10 → m_get τ3 c j k = m_get τ2 c j k := fun c j k x y => e4 c j k (fun z => x z.1) (fun z => y z.1)
      have s2 : ∀ c j k, c ≠ 18 → c ≠ 8 → m_get τ2 c j k = m_get τ1 c j k := fun c j k x y => b4 c j k (fun z => x z.1) (fun z => y z.1)
      have s1 : ∀ c j k, c ≠ 16 → c ≠ 6 → c ≠ 14 → m_get τ1 c j k = m_get s c j k := fun c j k x y w => a4 c j k (fun z => x z.1) (fun z => y z.1) (fun z => w z.1)
      have s6 : ∀ c j k, (c = 6 ∨ c = 14 ∨ c = 16) → m_get τ3 c j k = m_get τ1 c j k := fun c j k h => by
        rw [s3 c j k (by omega) (by omega), s2 c j k (by omega) (by omega)]
      have sl : ∀ c j, 13 ≤ c → c ≠ 14 → τ3.2.1 c j = s.2.1 c j := fun c j h h14 => by rw [e2 c j h, b2 c j h, a2 c j h, if_neg (fun z => h14 z.1)]
      refine ⟨(.inl none, τ3), ?_, rfl, ⟨⟨?_, ?_, ?_, ?_, ?_⟩, fun m hm => ?_, fun k hk => ?_, fun k hk => ?_, fun k hk => ?_, fun k hk => ?_, ?_, ?_, ?_, ?_, fun k hk => ?_, fun m hm => ?_⟩, fun c => ?_, ?_⟩
      · refine er_p rfl rfl rfl rfl ?_
        refine er_p rfl rfl rfl rfl ?_
        exact g1
      · exact ((s3 2 b 0 (by decide) (by decide)).trans (t2 0)).trans d0
      · exact ((s3 2 b 1 (by decide) (by decide)).trans (t2 1)).trans d1
      · exact ((s3 2 b 2 (by decide) (by decide)).trans (t2 2)).trans d2
      · exact ((s3 2 b 3 (by decide) (by decide)).trans (t2 3)).trans d3
      · exact ((s3 2 b 4 (by decide) (by decide)).trans (t2 4)).trans d4
      · show m_get τ3 6 (σ.1 6 + m) 0 = _ ∧ m_get τ3 6 (σ.1 6 + m) 1 = rf 14 (σ.1 14 + m) ∧ (∀ f, f ≠ 0 → f ≠ 1 → m_get τ3 6 (σ.1 6 + m) f = hz 6 f) ∧ ∀ f, f < 3 → m_get τ3 14 (σ.1 14 + m) f = hz 14 f
        cases m with
        | zero =>
          have o6 : ∀ f, m_get τ3 6 (σ.1 6 + 0) f = m_get s 6 (σ.1 6) f := fun f => (s6 6 _ f (Or.inl rfl)).trans (a4 6 _ f (fun z => by cases z.1) (fun z => by have := z.2.1; omega) (fun z => by cases z.1))
          have o14 : ∀ f, m_get τ3 14 (σ.1 14 + 0) f = m_get s 14 (σ.1 14) f := fun f => (s6 14 _ f (Or.inr (Or.inl rfl))).trans (a4 14 _ f (fun z => by cases z.1) (fun z => by cases z.1) (fun z => by have := z.2.1; omega))
          exact ⟨(o6 0).trans h0, (o6 1).trans h1, fun f x y => (o6 f).trans (h2 f x y), fun f _ => (o14 f).trans (h3 f)⟩
        | succ m =>
          obtain ⟨-, x2, x3, x4, x5⟩ := a3 m (by omega)
          have u6 : σ.1 6 + (m + 1) = s.1 6 + m := by omega
          have u14 : σ.1 14 + (m + 1) = s.1 14 + m := by omega
          rw [u6, u14]
          refine ⟨(s6 6 _ 0 (Or.inl rfl)).trans x2, (s6 6 _ 1 (Or.inl rfl)).trans x3, fun f x y => (s6 6 _ f (Or.inl rfl)).trans (x4 f x y), fun f _ => (s6 14 _ f (Or.inr (Or.inl rfl))).trans (x5 f)⟩
      · show m_get τ3 16 (σ.1 16) k = rf 6 (σ.1 6 + 1 + k)
        rw [s6 16 _ k (Or.inr (Or.inr rfl)), (a3 k hk).1, c6]
        rfl
      · show m_get τ3 18 (σ.1 18) k = rf 8 (σ.1 8 + k) ∧ m_get τ3 8 (σ.1 8 + k) 0 = _ ∧ m_get τ3 8 (σ.1 8 + k) 6 = _ ∧ ∀ f, f ≠ 0 → f ≠ 6 → m_get τ3 8 (σ.1 8 + k) f = hz 8 f
        obtain ⟨x1, x2, x3, x4⟩ := b3 k hk
        rw [n8] at x1 x2 x3 x4
        exact ⟨(s3 18 _ k (by decide) (by decide)).trans x1, (s3 8 _ 0 (by decide) (by decide)).trans x2, (s3 8 _ 6 (by decide) (by decide)).trans x3, fun f x y => (s3 8 _ f (by decide) (by decide)).trans (x4 f x y)⟩
      · show m_get τ3 20 (σ.1 20) k = rf 10 (σ.1 10 + k)
        rw [(e3 k hk).1, n10]
        rfl
      · show m_get τ3 21 (σ.1 21) k = rf 13 (σ.1 13 + k)
        rw [s3 21 _ k (by decide) (by decide), s2 21 _ k (by decide) (by decide), s1 21 _ k (by decide) (by decide) (by decide)]
        exact r1 k
      · exact (sl 16 _ (by decide) (by decide)).trans l16
      · exact (sl 18 _ (by decide) (by decide)).trans l18
      · exact (sl 20 _ (by decide) (by decide)).trans l20
      · exact (sl 21 _ (by decide) (by decide)).trans l21
      · exact (sl 13 _ (by decide) (by decide)).trans (l13 _ (by show σ.1 13 ≤ σ.1 13 + k; omega))
      · show τ3.2.1 14 (σ.1 14 + m) = 3
        rw [e2 14 _ (by decide), b2 14 _ (by decide), a2 14 _ (by decide)]
        by_cases hm0 : m = 0
        · rw [if_neg (fun z => by omega), hm0]; exact l14
        · exact if_pos ⟨rfl, by omega, by omega⟩
      · rw [k3, k2, k2, k1, k1, k1, hc 6, hc 14, hc 8, hc 10, hc c]
        unfold cl_n cs_n
        by_cases x6 : c = 6
        · subst x6; rfl
        by_cases x8 : c = 8
        · subst x8; rfl
        by_cases x10 : c = 10
        · subst x10; rfl
        by_cases x14 : c = 14
        · subst x14; rfl
        rw [if_neg x10, if_neg x8, if_neg x6, if_neg x14, if_neg x6, if_neg x8, if_neg x10, if_neg x14]
        by_cases x13 : c = 13
        · subst x13; rfl
        by_cases x16 : c = 16
        · subst x16; rfl
        by_cases x18 : c = 18
        · subst x18; rfl
        by_cases x20 : c = 20
        · subst x20; rfl
        by_cases x21 : c = 21
        · subst x21; rfl
        simp [x6, x8, x10, x13, x14, x16, x18, x20, x21]
      · refine ⟨fun c => ?_, fun c j k hj hn => ?_, fun c j h hj => ?_⟩
        · have := hog.1 c
          rw [k3, k2, k2, k1, k1, k1]
          split
          · rename_i x; subst x; show σ.1 10 ≤ s.1 10 + 200; omega
          · split
            · rename_i x; subst x; show σ.1 8 ≤ s.1 8 + 3; omega
            · split
              · rename_i x; subst x; omega
              · split
                · rename_i x; subst x; omega
                · exact this
        · have q := hog.2.1 c j k hj hn
          rw [e4 c j k (fun z => by rw [z.1, z.2] at hj; exact Nat.lt_irrefl _ hj) (fun z => by rw [z.1] at hj; omega), b4 c j k (fun z => by rw [z.1, z.2] at hj; exact Nat.lt_irrefl _ hj) (fun z => by rw [z.1] at hj; omega), a4 c j k (fun z => by rw [z.1, z.2] at hj; exact Nat.lt_irrefl _ hj) (fun z => by rw [z.1] at hj; omega) (fun z => by rw [z.1] at hj; omega)]
          exact q
        · rw [e2 c j h, b2 c j h, a2 c j h, if_neg (fun z => by rw [z.1] at hj; omega)]
          exact hog.2.2 c j h hj) 3 0 τ1 rfl ⟨fun c => by
        by_cases e : c = 8
        · subst e; rfl
        · rw [if_neg e], fun _ _ _ => rfl, fun k hk => by omega, fun _ _ _ _ _ => rfl⟩
    refine ⟨w, ?_, g2⟩
    refine er_p rfl rfl rfl rfl ?_
    refine er_p rfl rfl rfl rfl ?_
    exact g1
  obtain ⟨w, g1, g2, g3, g4, g5⟩ := loops
  obtain ⟨wx, wσ⟩ := w
  dsimp only at g2
  subst g2
  refine ⟨wσ, er_go z20s_at (Nat.le_of_ble_eq_true rfl) ?_, g3, g4, g5⟩
  subst hs
  refine er_p rfl rfl rfl rfl ?_
  refine er_obj rfl rfl rfl (by decide) ?_
  refine er_p rfl rfl rfl rfl ?_
  refine er_p rfl rfl rfl rfl ?_
  refine er_nwa (l := 5) (t := 0) (st' := []) rfl (by decide) ⟨by decide, by decide, by decide, by decide⟩ ?_
  refine er_put rfl rfl rfl ?_
  refine er_p rfl rfl rfl rfl ?_
  refine er_new rfl (by decide) ⟨by decide, by decide⟩ ?_
  refine er_p rfl rfl rfl rfl ?_
  refine er_p rfl rfl rfl rfl ?_
  refine er_spc (as := [.inl (Int32.ofInt (-1))]) (v := none) rfl (by decide) rfl rfl rfl rfl ⟨Nat.le_of_ble_eq_true rfl, ⟨by decide, by decide⟩⟩ er_88 ?_
  refine er_put rfl rfl rfl ?_
  refine er_p rfl rfl rfl rfl ?_
  refine er_p rfl rfl rfl rfl ?_
  refine er_nwa (l := 3) (t := 0) (st' := []) rfl (by decide) ⟨by decide, by decide, by decide, by decide⟩ ?_
  refine er_put rfl rfl rfl ?_
  refine er_p rfl rfl rfl rfl ?_
  refine er_p rfl rfl rfl rfl ?_
  refine er_nwa (l := 200) (t := 0) (st' := []) rfl (by decide) ⟨by decide, by decide, by decide, by decide⟩ ?_
  refine er_put rfl rfl rfl ?_
  refine er_p rfl rfl rfl rfl ?_
  refine er_p rfl rfl rfl rfl ?_
  refine er_p rfl rfl rfl rfl ?_
  refine er_mna rfl rfl rfl ⟨by decide, by decide⟩ ?_
  refine er_put rfl rfl rfl ?_
  refine er_p rfl rfl rfl rfl ?_
  refine er_p rfl rfl rfl rfl ?_
  exact g1
