/-! the feed: a reader copies all; a message is kept -/
def z57 : mAl := ((yX3_copyAll, cX3_copyAll, 2, (some .int), { frames := 1, cells := 0, slots := 0, locals := 22 }, []), rw_X3_copyAll, false)
theorem z57_at : m_alF[57]? = some z57 := rfl
def z54 : mAl := ((yX3_addMessage, cX3_addMessage, 4, none, { frames := 1, cells := 0, slots := 0, locals := 22 }, []), rw_X3_addMessage, false)
theorem z54_at : m_alF[54]? = some z54 := rfl
theorem s57 {σ σ' : mS} {t rd a ka qa n b kb qb m : Nat} {w : mX} (ht : m_get σ 3 t 4 = rf 5 b) (hr : m_get σ 9 rd 0 = rf 5 a) (hv : lv σ a ka qa n) (hw : lv σ b kb qb m) (d1 : kb ≠ ka) (d2 : kb ≠ qa) (d3 : qb ≠ ka) (d4 : qb ≠ qa) (h : ev_run sm_all 57 [rf 3 t, rf 9 rd] σ w σ') : ∃ (v : Int32) (τ : mS), w = .inl (some (.inl v)) ∧ v = m_i τ 5 b 2 ∧ σ' = m_set τ 9 rd 1 (.inl (m_i σ 3 t 5)) ∧ fr3 (l5 a ka qa) σ τ ∧ lv τ a ka qa m ∧ ∀ j, j < m → m_i τ 13 ka j = m_i σ 13 kb j ∧ m_i τ 13 qa j = m_i σ 13 qb j := by
  obtain ⟨F, f, h⟩ := ei_go h z57_at
  replace h : EV F f 57 z57 0 [some (rf 3 (t)), some (rf 9 (rd))] [] σ (w, σ') := h
  replace h := ei_p h rfl rfl rfl rfl
  obtain ⟨f, g, h⟩ := h
  clear g
  replace h : EV F f 57 z57 1 [some (rf 3 (t)), some (rf 9 (rd))] [rf 9 (rd)] σ (w, σ') := h
  replace h := ei_get h rfl hr
  obtain ⟨f, g, h⟩ := h
  clear g
  replace h : EV F f 57 z57 4 [some (rf 3 (t)), some (rf 9 (rd))] [rf 5 (a)] σ (w, σ') := h
  replace h := ei_p h rfl rfl rfl rfl
  obtain ⟨f, g, h⟩ := h
  clear g
  replace h : EV F f 57 z57 5 [some (rf 3 (t)), some (rf 9 (rd))] [rf 3 (t), rf 5 (a)] σ (w, σ') := h
  replace h := ei_get h rfl ht
  obtain ⟨f, g, h⟩ := h
  clear g
  replace h : EV F f 57 z57 8 [some (rf 3 (t)), some (rf 9 (rd))] [rf 5 (b), rf 5 (a)] σ (w, σ') := h
  replace h := bk_0 (ei_v (as := [rf 5 (b)]) h rfl rfl rfl) rfl z84_at rfl
  obtain ⟨τ2, r3, f, g, h⟩ := h
  clear g
  obtain ⟨_, hF, hV, C⟩ := s84 hv hw d1 d2 d3 d4 r3
  replace h : EV F f 57 z57 11 [some (rf 3 (t)), some (rf 9 (rd))] [] τ2 (w, σ') := h
  replace h := ei_p h rfl rfl rfl rfl
  obtain ⟨f, g, h⟩ := h
  clear g
  replace h : EV F f 57 z57 12 [some (rf 3 (t)), some (rf 9 (rd))] [rf 9 (rd)] τ2 (w, σ') := h
  replace h := ei_p h rfl rfl rfl rfl
  obtain ⟨f, g, h⟩ := h
  clear g
  replace h : EV F f 57 z57 13 [some (rf 3 (t)), some (rf 9 (rd))] [rf 3 (t), rf 9 (rd)] τ2 (w, σ') := h
  replace h := ei_get h rfl ((hF.get (c := 3) (i := t) (k := 5) (l5_7 (by decide) (by decide))).trans rfl)
  obtain ⟨f, g, h⟩ := h
  clear g
  replace h : EV F f 57 z57 16 [some (rf 3 (t)), some (rf 9 (rd))] [.inl (m_i σ 3 t 5), rf 9 (rd)] τ2 (w, σ') := h
  replace h := ei_put h rfl
  obtain ⟨ht4, f, g, h⟩ := h
  clear g
  replace h : EV F f 57 z57 19 [some (rf 3 (t)), some (rf 9 (rd))] [] (m_set τ2 9 (rd) 1 (.inl (m_i σ 3 t 5))) (w, σ') := h
  replace h := ei_p h rfl rfl rfl rfl
  obtain ⟨f, g, h⟩ := h
  clear g
  replace h : EV F f 57 z57 20 [some (rf 3 (t)), some (rf 9 (rd))] [rf 3 (t)] (m_set τ2 9 (rd) 1 (.inl (m_i σ 3 t 5))) (w, σ') := h
  replace h := ei_get h rfl ((m_get_ne _ _ (fun z => by cases z.1)).trans ((hF.get (c := 3) (i := t) (k := 4) (l5_7 (by decide) (by decide))).trans ht))
  obtain ⟨f, g, h⟩ := h
  clear g
  replace h : EV F f 57 z57 23 [some (rf 3 (t)), some (rf 9 (rd))] [rf 5 (b)] (m_set τ2 9 (rd) 1 (.inl (m_i σ 3 t 5))) (w, σ') := h
  replace h := ei_get h rfl ((m_get_ne _ _ (fun z => by cases z.1)).trans rfl)
  obtain ⟨f, g, h⟩ := h
  clear g
  replace h : EV F f 57 z57 26 [some (rf 3 (t)), some (rf 9 (rd))] [.inl (m_i τ2 5 (b) (2))] (m_set τ2 9 (rd) 1 (.inl (m_i σ 3 t 5))) (w, σ') := h
  have e := ei_iret h rfl
  cases e
  exact ⟨_, _, rfl, rfl, rfl, hF, hV, C⟩
