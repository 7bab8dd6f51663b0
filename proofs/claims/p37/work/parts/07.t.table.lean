/-! all methods with their rows -/
def rw_fm : List (Nat × mRow) := [(0, (.iload_n 0, 0, 0, 0, 0, [])), (1, (.iload_n 1, 0, 0, 0, 0, [])), (2, (.irem, 0, 0, 0, 0, [])), (3, (.istore_n 2, 0, 0, 0, 0, [])), (4, (.iload_n 0, 0, 0, 0, 0, [])), (5, (.iload_n 1, 0, 0, 0, 0, [])), (6, (.ixor, 0, 0, 0, 0, [])), (7, (.ifCond .ge (11), 0, 18, 0, 0, [])), (10, (.iload_n 2, 0, 0, 0, 0, [])), (11, (.ifCond .eq (7), 0, 18, 0, 0, [])), (14, (.iload_n 2, 0, 0, 0, 0, [])), (15, (.iload_n 1, 0, 0, 0, 0, [])), (16, (.iadd, 0, 0, 0, 0, [])), (17, (.ireturn, 0, 0, 0, 0, [])), (18, (.iload_n 2, 0, 0, 0, 0, [])), (19, (.ireturn, 0, 0, 0, 0, []))]
theorem ok_fm : ∀ q ∈ rw_fm, m_rowB m_mt "java/lang/Math" false prog_19_method_50_code { frames := 0, cells := 0, slots := 0, locals := 0 } q = true := List.all_eq_true.mp (by decide +kernel)
abbrev mAl : Type := mMt × List (Nat × mRow) × Bool
def m_okA (z : mAl) : Prop := (∀ q ∈ z.2.1, m_rowB m_mt z.1.1.cls z.2.2 z.1.2.1 z.1.2.2.2.2.1 q = true) ∧ (z.2.2 = true → z.1.1.name = "<init>") ∧ plainName z.1.1.cls = true
def m_al_0 : List mAl := [((yX0_init, cX0_init, 2, none, { frames := 2, cells := 121, slots := 1680, locals := 41 }, []), rw_X0_init, true),
  ((yX0_clear, cX0_clear, 1, none, { frames := 0, cells := 0, slots := 0, locals := 0 }, []), rw_X0_clear, false),
  ((yX0_hasRoom, cX0_hasRoom, 1, (some .boolean), { frames := 0, cells := 0, slots := 0, locals := 0 }, []), rw_X0_hasRoom, false),
  ((yX0_orderAt, cX0_orderAt, 2, (some (.object "NettingHall$Order")), { frames := 0, cells := 0, slots := 0, locals := 0 }, []), rw_X0_orderAt, false),
  ((yX0_add, cX0_add, 7, (some (.object "NettingHall$Order")), { frames := 0, cells := 0, slots := 0, locals := 0 }, []), rw_X0_add, false),
  ((yX0_letStand, cX0_letStand, 2, none, { frames := 1, cells := 0, slots := 0, locals := 20 }, []), rw_X0_letStand, false),
  ((yX0_firstOf, cX0_firstOf, 6, (some (.object "NettingHall$Order")), { frames := 1, cells := 0, slots := 0, locals := 22 }, []), rw_X0_firstOf, false),
  ((yX0_shownAt, cX0_shownAt, 7, (some .int), { frames := 1, cells := 0, slots := 0, locals := 22 }, []), rw_X0_shownAt, false),
  ((yX0_sumGoodFor, cX0_sumGoodFor, 8, (some .int), { frames := 1, cells := 0, slots := 0, locals := 22 }, []), rw_X0_sumGoodFor, false),
  ((yX0_mostAt, cX0_mostAt, 3, (some .int), { frames := 2, cells := 0, slots := 0, locals := 49 }, []), rw_X0_mostAt, false),
  ((yX0_openingPrice, cX0_openingPrice, 6, (some .int), { frames := 3, cells := 0, slots := 0, locals := 80 }, []), rw_X0_openingPrice, false),
  ((yX0_opensBetter, cX0_opensBetter, 12, (some .boolean), { frames := 2, cells := 0, slots := 0, locals := 49 }, []), rw_X0_opensBetter, false),
  ((yX0_useShown, cX0_useShown, 3, none, { frames := 2, cells := 0, slots := 0, locals := 41 }, []), rw_X0_useShown, false),
  ((yX0_useAll, cX0_useAll, 3, none, { frames := 1, cells := 0, slots := 0, locals := 20 }, []), rw_X0_useAll, false),
  ((yX0_takeAwayOf, cX0_takeAwayOf, 3, none, { frames := 1, cells := 0, slots := 0, locals := 20 }, []), rw_X0_takeAwayOf, false),
  ((yX0_divide, cX0_divide, 4, none, { frames := 3, cells := 0, slots := 0, locals := 65 }, []), rw_X0_divide, false),
  ((yX0_firstToWake, cX0_firstToWake, 5, (some (.object "NettingHall$Order")), { frames := 1, cells := 0, slots := 0, locals := 21 }, []), rw_X0_firstToWake, false),
  ((yX0_isSameAs, cX0_isSameAs, 4, (some .boolean), { frames := 2, cells := 0, slots := 0, locals := 41 }, []), rw_X0_isSameAs, false),
  ((yX1_init, cX1_init, 5, none, { frames := 1, cells := 0, slots := 0, locals := 20 }, []), rw_X1_init, true),
  ((yX1_with, cX1_with, 5, (some (.object "NettingHall$Call")), { frames := 0, cells := 0, slots := 0, locals := 0 }, []), rw_X1_with, false)]
theorem m_al_ok_0 : ∀ z ∈ m_al_0, m_okA z := List.forall_mem_cons.mpr ⟨⟨ok_X0_init, (fun h => rfl), by decide +kernel⟩, List.forall_mem_cons.mpr ⟨⟨ok_X0_clear, (fun h => by cases h), by decide +kernel⟩, List.forall_mem_cons.mpr ⟨⟨ok_X0_hasRoom, (fun h => by cases h), by decide +kernel⟩, List.forall_mem_cons.mpr ⟨⟨ok_X0_orderAt, (fun h => by cases h), by decide +kernel⟩, List.forall_mem_cons.mpr ⟨⟨ok_X0_add, (fun h => by cases h), by decide +kernel⟩, List.forall_mem_cons.mpr ⟨⟨ok_X0_letStand, (fun h => by cases h), by decide +kernel⟩, List.forall_mem_cons.mpr ⟨⟨ok_X0_firstOf, (fun h => by cases h), by decide +kernel⟩, List.forall_mem_cons.mpr ⟨⟨ok_X0_shownAt, (fun h => by cases h), by decide +kernel⟩, List.forall_mem_cons.mpr ⟨⟨ok_X0_sumGoodFor, (fun h => by cases h), by decide +kernel⟩, List.forall_mem_cons.mpr ⟨⟨ok_X0_mostAt, (fun h => by cases h), by decide +kernel⟩, List.forall_mem_cons.mpr ⟨⟨ok_X0_openingPrice, (fun h => by cases h), by decide +kernel⟩, List.forall_mem_cons.mpr ⟨⟨ok_X0_opensBetter, (fun h => by cases h), by decide +kernel⟩, List.forall_mem_cons.mpr ⟨⟨ok_X0_useShown, (fun h => by cases h), by decide +kernel⟩, List.forall_mem_cons.mpr ⟨⟨ok_X0_useAll, (fun h => by cases h), by decide +kernel⟩, List.forall_mem_cons.mpr ⟨⟨ok_X0_takeAwayOf, (fun h => by cases h), by decide +kernel⟩, List.forall_mem_cons.mpr ⟨⟨ok_X0_divide, (fun h => by cases h), by decide +kernel⟩, List.forall_mem_cons.mpr ⟨⟨ok_X0_firstToWake, (fun h => by cases h), by decide +kernel⟩, List.forall_mem_cons.mpr ⟨⟨ok_X0_isSameAs, (fun h => by cases h), by decide +kernel⟩, List.forall_mem_cons.mpr ⟨⟨ok_X1_init, (fun h => rfl), by decide +kernel⟩, List.forall_mem_cons.mpr ⟨⟨ok_X1_with, (fun h => by cases h), by decide +kernel⟩, fun _ h => absurd h List.not_mem_nil⟩⟩⟩⟩⟩⟩⟩⟩⟩⟩⟩⟩⟩⟩⟩⟩⟩⟩⟩⟩
def m_al_1 : List mAl := [((yX2_init, cX2_init, 2, none, { frames := 2, cells := 223, slots := 2335, locals := 41 }, []), rw_X2_init, true),
  ((yX2_clear, cX2_clear, 5, none, { frames := 1, cells := 0, slots := 0, locals := 21 }, []), rw_X2_clear, false),
  ((yX2_memberAt, cX2_memberAt, 2, (some (.object "NettingHall$Member")), { frames := 0, cells := 0, slots := 0, locals := 0 }, []), rw_X2_memberAt, false),
  ((yX2_holderAt, cX2_holderAt, 2, (some (.object "NettingHall$Member")), { frames := 1, cells := 0, slots := 0, locals := 21 }, []), rw_X2_holderAt, false),
  ((yX2_paperAt, cX2_paperAt, 2, (some (.object "NettingHall$Paper")), { frames := 0, cells := 0, slots := 0, locals := 0 }, []), rw_X2_paperAt, false),
  ((yX2_tradeAt, cX2_tradeAt, 2, (some (.object "NettingHall$Trade")), { frames := 0, cells := 0, slots := 0, locals := 0 }, []), rw_X2_tradeAt, false),
  ((yX2_hasFailed, cX2_hasFailed, 3, (some .boolean), { frames := 1, cells := 0, slots := 0, locals := 21 }, []), rw_X2_hasFailed, false),
  ((yX2_isContinuous, cX2_isContinuous, 3, (some .boolean), { frames := 1, cells := 0, slots := 0, locals := 21 }, []), rw_X2_isContinuous, false),
  ((yX2_hasRoomFor, cX2_hasRoomFor, 2, (some .boolean), { frames := 0, cells := 0, slots := 0, locals := 0 }, []), rw_X2_hasRoomFor, false),
  ((yX2_payDeposit, cX2_payDeposit, 4, (some .long), { frames := 1, cells := 0, slots := 0, locals := 21 }, []), rw_X2_payDeposit, false),
  ((yX2_payShare, cX2_payShare, 4, (some .long), { frames := 2, cells := 0, slots := 0, locals := 42 }, []), rw_X2_payShare, false),
  ((yX2_addScenario, cX2_addScenario, 5, (some .int), { frames := 0, cells := 0, slots := 0, locals := 0 }, []), rw_X2_addScenario, false),
  ((yX2_makeTrade, cX2_makeTrade, 16, none, { frames := 1, cells := 0, slots := 0, locals := 25 }, []), rw_X2_makeTrade, false),
  ((yX2_canBeBroken, cX2_canBeBroken, 2, (some .boolean), { frames := 2, cells := 0, slots := 0, locals := 43 }, []), rw_X2_canBeBroken, false),
  ((yX2_undoTrade, cX2_undoTrade, 10, none, { frames := 1, cells := 0, slots := 0, locals := 25 }, []), rw_X2_undoTrade, false),
  ((yX2_hasTraded, cX2_hasTraded, 8, (some .boolean), { frames := 0, cells := 0, slots := 0, locals := 0 }, []), rw_X2_hasTraded, false),
  ((yX2_divide, cX2_divide, 7, none, { frames := 3, cells := 0, slots := 0, locals := 65 }, []), rw_X2_divide, false),
  ((yX2_payDividend, cX2_payDividend, 9, (some .long), { frames := 2, cells := 0, slots := 0, locals := 48 }, []), rw_X2_payDividend, false),
  ((yX2_payDividendTo, cX2_payDividendTo, 6, (some .long), { frames := 1, cells := 0, slots := 0, locals := 23 }, []), rw_X2_payDividendTo, false),
  ((yX2_worthOf, cX2_worthOf, 8, (some .long), { frames := 1, cells := 0, slots := 0, locals := 21 }, []), rw_X2_worthOf, false)]
theorem m_al_ok_1 : ∀ z ∈ m_al_1, m_okA z := List.forall_mem_cons.mpr ⟨⟨ok_X2_init, (fun h => rfl), by decide +kernel⟩, List.forall_mem_cons.mpr ⟨⟨ok_X2_clear, (fun h => by cases h), by decide +kernel⟩, List.forall_mem_cons.mpr ⟨⟨ok_X2_memberAt, (fun h => by cases h), by decide +kernel⟩, List.forall_mem_cons.mpr ⟨⟨ok_X2_holderAt, (fun h => by cases h), by decide +kernel⟩, List.forall_mem_cons.mpr ⟨⟨ok_X2_paperAt, (fun h => by cases h), by decide +kernel⟩, List.forall_mem_cons.mpr ⟨⟨ok_X2_tradeAt, (fun h => by cases h), by decide +kernel⟩, List.forall_mem_cons.mpr ⟨⟨ok_X2_hasFailed, (fun h => by cases h), by decide +kernel⟩, List.forall_mem_cons.mpr ⟨⟨ok_X2_isContinuous, (fun h => by cases h), by decide +kernel⟩, List.forall_mem_cons.mpr ⟨⟨ok_X2_hasRoomFor, (fun h => by cases h), by decide +kernel⟩, List.forall_mem_cons.mpr ⟨⟨ok_X2_payDeposit, (fun h => by cases h), by decide +kernel⟩, List.forall_mem_cons.mpr ⟨⟨ok_X2_payShare, (fun h => by cases h), by decide +kernel⟩, List.forall_mem_cons.mpr ⟨⟨ok_X2_addScenario, (fun h => by cases h), by decide +kernel⟩, List.forall_mem_cons.mpr ⟨⟨ok_X2_makeTrade, (fun h => by cases h), by decide +kernel⟩, List.forall_mem_cons.mpr ⟨⟨ok_X2_canBeBroken, (fun h => by cases h), by decide +kernel⟩, List.forall_mem_cons.mpr ⟨⟨ok_X2_undoTrade, (fun h => by cases h), by decide +kernel⟩, List.forall_mem_cons.mpr ⟨⟨ok_X2_hasTraded, (fun h => by cases h), by decide +kernel⟩, List.forall_mem_cons.mpr ⟨⟨ok_X2_divide, (fun h => by cases h), by decide +kernel⟩, List.forall_mem_cons.mpr ⟨⟨ok_X2_payDividend, (fun h => by cases h), by decide +kernel⟩, List.forall_mem_cons.mpr ⟨⟨ok_X2_payDividendTo, (fun h => by cases h), by decide +kernel⟩, List.forall_mem_cons.mpr ⟨⟨ok_X2_worthOf, (fun h => by cases h), by decide +kernel⟩, fun _ h => absurd h List.not_mem_nil⟩⟩⟩⟩⟩⟩⟩⟩⟩⟩⟩⟩⟩⟩⟩⟩⟩⟩⟩⟩
def m_al_2 : List mAl := [((yX2_marginOf, cX2_marginOf, 5, (some .long), { frames := 2, cells := 0, slots := 0, locals := 46 }, []), rw_X2_marginOf, false),
  ((yX2_lossBy, cX2_lossBy, 6, (some .long), { frames := 1, cells := 0, slots := 0, locals := 21 }, []), rw_X2_lossBy, false),
  ((yX2_reviewCalls, cX2_reviewCalls, 6, none, { frames := 3, cells := 0, slots := 0, locals := 70 }, []), rw_X2_reviewCalls, false),
  ((yX2_nextToFail, cX2_nextToFail, 5, (some (.object "NettingHall$Member")), { frames := 0, cells := 0, slots := 0, locals := 0 }, []), rw_X2_nextToFail, false),
  ((yX2_letFail, cX2_letFail, 10, none, { frames := 4, cells := 0, slots := 0, locals := 115 }, []), rw_X2_letFail, false),
  ((yX2_sellOut, cX2_sellOut, 10, (some .long), { frames := 4, cells := 0, slots := 0, locals := 115 }, []), rw_X2_sellOut, false),
  ((yX2_settleFailed, cX2_settleFailed, 14, (some .long), { frames := 3, cells := 0, slots := 0, locals := 82 }, []), rw_X2_settleFailed, false),
  ((yX2_takeShare, cX2_takeShare, 6, (some .long), { frames := 1, cells := 0, slots := 0, locals := 23 }, []), rw_X2_takeShare, false),
  ((yX2_takeFromOthers, cX2_takeFromOthers, 15, (some .long), { frames := 2, cells := 0, slots := 0, locals := 48 }, []), rw_X2_takeFromOthers, false),
  ((yX2_isSameAs, cX2_isSameAs, 4, (some .boolean), { frames := 2, cells := 0, slots := 0, locals := 44 }, []), rw_X2_isSameAs, false),
  ((yX3_init, cX3_init, 2, none, { frames := 3, cells := 17, slots := 3918, locals := 60 }, []), rw_X3_init, true),
  ((yX3_keyOf, cX3_keyOf, 1, (some .int), { frames := 0, cells := 0, slots := 0, locals := 0 }, []), rw_X3_keyOf, false),
  ((yX3_readerAt, cX3_readerAt, 2, (some (.object "NettingHall$Reader")), { frames := 0, cells := 0, slots := 0, locals := 0 }, []), rw_X3_readerAt, false),
  ((yX3_tell, cX3_tell, 4, none, { frames := 3, cells := 0, slots := 0, locals := 70 }, []), rw_X3_tell, false),
  ((yX3_addMessage, cX3_addMessage, 4, none, { frames := 1, cells := 0, slots := 0, locals := 22 }, []), rw_X3_addMessage, false),
  ((yX3_readNext, cX3_readNext, 3, (some .int), { frames := 2, cells := 0, slots := 0, locals := 46 }, []), rw_X3_readNext, false),
  ((yX3_loseNext, cX3_loseNext, 2, (some .int), { frames := 0, cells := 0, slots := 0, locals := 0 }, []), rw_X3_loseNext, false),
  ((yX3_copyAll, cX3_copyAll, 2, (some .int), { frames := 1, cells := 0, slots := 0, locals := 22 }, []), rw_X3_copyAll, false),
  ((yX4_init, cX4_init, 1, none, { frames := 3, cells := 346, slots := 4029, locals := 62 }, []), rw_X4_init, true),
  ((yX4_clear, cX4_clear, 1, none, { frames := 2, cells := 0, slots := 0, locals := 45 }, []), rw_X4_clear, false)]
theorem m_al_ok_2 : ∀ z ∈ m_al_2, m_okA z := List.forall_mem_cons.mpr ⟨⟨ok_X2_marginOf, (fun h => by cases h), by decide +kernel⟩, List.forall_mem_cons.mpr ⟨⟨ok_X2_lossBy, (fun h => by cases h), by decide +kernel⟩, List.forall_mem_cons.mpr ⟨⟨ok_X2_reviewCalls, (fun h => by cases h), by decide +kernel⟩, List.forall_mem_cons.mpr ⟨⟨ok_X2_nextToFail, (fun h => by cases h), by decide +kernel⟩, List.forall_mem_cons.mpr ⟨⟨ok_X2_letFail, (fun h => by cases h), by decide +kernel⟩, List.forall_mem_cons.mpr ⟨⟨ok_X2_sellOut, (fun h => by cases h), by decide +kernel⟩, List.forall_mem_cons.mpr ⟨⟨ok_X2_settleFailed, (fun h => by cases h), by decide +kernel⟩, List.forall_mem_cons.mpr ⟨⟨ok_X2_takeShare, (fun h => by cases h), by decide +kernel⟩, List.forall_mem_cons.mpr ⟨⟨ok_X2_takeFromOthers, (fun h => by cases h), by decide +kernel⟩, List.forall_mem_cons.mpr ⟨⟨ok_X2_isSameAs, (fun h => by cases h), by decide +kernel⟩, List.forall_mem_cons.mpr ⟨⟨ok_X3_init, (fun h => rfl), by decide +kernel⟩, List.forall_mem_cons.mpr ⟨⟨ok_X3_keyOf, (fun h => by cases h), by decide +kernel⟩, List.forall_mem_cons.mpr ⟨⟨ok_X3_readerAt, (fun h => by cases h), by decide +kernel⟩, List.forall_mem_cons.mpr ⟨⟨ok_X3_tell, (fun h => by cases h), by decide +kernel⟩, List.forall_mem_cons.mpr ⟨⟨ok_X3_addMessage, (fun h => by cases h), by decide +kernel⟩, List.forall_mem_cons.mpr ⟨⟨ok_X3_readNext, (fun h => by cases h), by decide +kernel⟩, List.forall_mem_cons.mpr ⟨⟨ok_X3_loseNext, (fun h => by cases h), by decide +kernel⟩, List.forall_mem_cons.mpr ⟨⟨ok_X3_copyAll, (fun h => by cases h), by decide +kernel⟩, List.forall_mem_cons.mpr ⟨⟨ok_X4_init, (fun h => rfl), by decide +kernel⟩, List.forall_mem_cons.mpr ⟨⟨ok_X4_clear, (fun h => by cases h), by decide +kernel⟩, fun _ h => absurd h List.not_mem_nil⟩⟩⟩⟩⟩⟩⟩⟩⟩⟩⟩⟩⟩⟩⟩⟩⟩⟩⟩⟩
def m_al_3 : List mAl := [((yX4_isSameAs, cX4_isSameAs, 2, (some .boolean), { frames := 3, cells := 0, slots := 0, locals := 67 }, []), rw_X4_isSameAs, false),
  ((yX4_perform, cX4_perform, 4, (some .long), { frames := 6, cells := 0, slots := 0, locals := 167 }, []), rw_X4_perform, false),
  ((yX4_changePaper, cX4_changePaper, 3, (some .long), { frames := 5, cells := 0, slots := 0, locals := 132 }, []), rw_X4_changePaper, false),
  ((yX4_moveMoney, cX4_moveMoney, 2, (some .long), { frames := 5, cells := 0, slots := 0, locals := 144 }, []), rw_X4_moveMoney, false),
  ((yX4_letOrderCome, cX4_letOrderCome, 9, (some .int), { frames := 4, cells := 0, slots := 0, locals := 113 }, []), rw_X4_letOrderCome, false),
  ((yX4_letStopWait, cX4_letStopWait, 3, (some .int), { frames := 1, cells := 0, slots := 0, locals := 26 }, []), rw_X4_letStopWait, false),
  ((yX4_enter, cX4_enter, 7, none, { frames := 3, cells := 0, slots := 0, locals := 87 }, []), rw_X4_enter, false),
  ((yX4_tradeWith, cX4_tradeWith, 8, none, { frames := 2, cells := 0, slots := 0, locals := 60 }, []), rw_X4_tradeWith, false),
  ((yX4_takeAway, cX4_takeAway, 1, none, { frames := 1, cells := 0, slots := 0, locals := 20 }, []), rw_X4_takeAway, false),
  ((yX4_wakeStops, cX4_wakeStops, 5, none, { frames := 4, cells := 0, slots := 0, locals := 113 }, []), rw_X4_wakeStops, false),
  ((yX4_tieOrders, cX4_tieOrders, 5, (some .int), { frames := 1, cells := 0, slots := 0, locals := 21 }, []), rw_X4_tieOrders, false),
  ((yX4_cancelOrder, cX4_cancelOrder, 5, (some .int), { frames := 1, cells := 0, slots := 0, locals := 27 }, []), rw_X4_cancelOrder, false),
  ((yX4_letSpreadCome, cX4_letSpreadCome, 10, (some .int), { frames := 4, cells := 0, slots := 0, locals := 92 }, []), rw_X4_letSpreadCome, false),
  ((yX4_tradeSpread, cX4_tradeSpread, 10, (some .int), { frames := 3, cells := 0, slots := 0, locals := 63 }, []), rw_X4_tradeSpread, false),
  ((yX4_openPaper, cX4_openPaper, 8, (some .int), { frames := 4, cells := 0, slots := 0, locals := 105 }, []), rw_X4_openPaper, false),
  ((yX4_tradeInOpening, cX4_tradeInOpening, 7, (some .int), { frames := 2, cells := 0, slots := 0, locals := 60 }, []), rw_X4_tradeInOpening, false),
  ((yX4_passTicks, cX4_passTicks, 4, (some .int), { frames := 5, cells := 0, slots := 0, locals := 144 }, []), rw_X4_passTicks, false),
  ((yX5_init, cX5_init, 1, none, { frames := 1, cells := 2, slots := 960, locals := 20 }, []), rw_X5_init, true),
  ((yX5_quantityAt, cX5_quantityAt, 3, (some .int), { frames := 1, cells := 0, slots := 0, locals := 22 }, []), rw_X5_quantityAt, false),
  ((yX5_keyAbove, cX5_keyAbove, 3, (some .int), { frames := 1, cells := 0, slots := 0, locals := 22 }, []), rw_X5_keyAbove, false)]
theorem m_al_ok_3 : ∀ z ∈ m_al_3, m_okA z := List.forall_mem_cons.mpr ⟨⟨ok_X4_isSameAs, (fun h => by cases h), by decide +kernel⟩, List.forall_mem_cons.mpr ⟨⟨ok_X4_perform, (fun h => by cases h), by decide +kernel⟩, List.forall_mem_cons.mpr ⟨⟨ok_X4_changePaper, (fun h => by cases h), by decide +kernel⟩, List.forall_mem_cons.mpr ⟨⟨ok_X4_moveMoney, (fun h => by cases h), by decide +kernel⟩, List.forall_mem_cons.mpr ⟨⟨ok_X4_letOrderCome, (fun h => by cases h), by decide +kernel⟩, List.forall_mem_cons.mpr ⟨⟨ok_X4_letStopWait, (fun h => by cases h), by decide +kernel⟩, List.forall_mem_cons.mpr ⟨⟨ok_X4_enter, (fun h => by cases h), by decide +kernel⟩, List.forall_mem_cons.mpr ⟨⟨ok_X4_tradeWith, (fun h => by cases h), by decide +kernel⟩, List.forall_mem_cons.mpr ⟨⟨ok_X4_takeAway, (fun h => by cases h), by decide +kernel⟩, List.forall_mem_cons.mpr ⟨⟨ok_X4_wakeStops, (fun h => by cases h), by decide +kernel⟩, List.forall_mem_cons.mpr ⟨⟨ok_X4_tieOrders, (fun h => by cases h), by decide +kernel⟩, List.forall_mem_cons.mpr ⟨⟨ok_X4_cancelOrder, (fun h => by cases h), by decide +kernel⟩, List.forall_mem_cons.mpr ⟨⟨ok_X4_letSpreadCome, (fun h => by cases h), by decide +kernel⟩, List.forall_mem_cons.mpr ⟨⟨ok_X4_tradeSpread, (fun h => by cases h), by decide +kernel⟩, List.forall_mem_cons.mpr ⟨⟨ok_X4_openPaper, (fun h => by cases h), by decide +kernel⟩, List.forall_mem_cons.mpr ⟨⟨ok_X4_tradeInOpening, (fun h => by cases h), by decide +kernel⟩, List.forall_mem_cons.mpr ⟨⟨ok_X4_passTicks, (fun h => by cases h), by decide +kernel⟩, List.forall_mem_cons.mpr ⟨⟨ok_X5_init, (fun h => rfl), by decide +kernel⟩, List.forall_mem_cons.mpr ⟨⟨ok_X5_quantityAt, (fun h => by cases h), by decide +kernel⟩, List.forall_mem_cons.mpr ⟨⟨ok_X5_keyAbove, (fun h => by cases h), by decide +kernel⟩, fun _ h => absurd h List.not_mem_nil⟩⟩⟩⟩⟩⟩⟩⟩⟩⟩⟩⟩⟩⟩⟩⟩⟩⟩⟩⟩
def m_al_4 : List mAl := [((yX5_placeOf, cX5_placeOf, 3, (some .int), { frames := 0, cells := 0, slots := 0, locals := 0 }, []), rw_X5_placeOf, false),
  ((yX5_put, cX5_put, 5, none, { frames := 1, cells := 0, slots := 0, locals := 22 }, []), rw_X5_put, false),
  ((yX5_makeGapAt, cX5_makeGapAt, 3, none, { frames := 0, cells := 0, slots := 0, locals := 0 }, []), rw_X5_makeGapAt, false),
  ((yX5_closeGapAt, cX5_closeGapAt, 3, none, { frames := 0, cells := 0, slots := 0, locals := 0 }, []), rw_X5_closeGapAt, false),
  ((yX5_takeOver, cX5_takeOver, 3, none, { frames := 0, cells := 0, slots := 0, locals := 0 }, []), rw_X5_takeOver, false),
  ((yX5_collect, cX5_collect, 5, none, { frames := 2, cells := 0, slots := 0, locals := 46 }, []), rw_X5_collect, false),
  ((yX5_nextDifference, cX5_nextDifference, 7, (some .int), { frames := 2, cells := 0, slots := 0, locals := 44 }, []), rw_X5_nextDifference, false),
  ((yX5_differencesFrom, cX5_differencesFrom, 5, (some .int), { frames := 3, cells := 0, slots := 0, locals := 70 }, []), rw_X5_differencesFrom, false),
  ((yX6_init, cX6_init, 2, none, { frames := 1, cells := 1, slots := 3, locals := 20 }, []), rw_X6_init, true),
  ((yX6_clear, cX6_clear, 2, none, { frames := 0, cells := 0, slots := 0, locals := 0 }, []), rw_X6_clear, false),
  ((yX6_positionIn, cX6_positionIn, 2, (some .long), { frames := 0, cells := 0, slots := 0, locals := 0 }, []), rw_X6_positionIn, false),
  ((yX6_take, cX6_take, 6, none, { frames := 0, cells := 0, slots := 0, locals := 0 }, []), rw_X6_take, false),
  ((yX6_holdsNothing, cX6_holdsNothing, 6, (some .boolean), { frames := 0, cells := 0, slots := 0, locals := 0 }, []), rw_X6_holdsNothing, false),
  ((yX6_condition, cX6_condition, 1, (some .int), { frames := 0, cells := 0, slots := 0, locals := 0 }, []), rw_X6_condition, false),
  ((yX6_amountOf, cX6_amountOf, 2, (some .long), { frames := 0, cells := 0, slots := 0, locals := 0 }, []), rw_X6_amountOf, false),
  ((yX6_rate, cX6_rate, 1, (some .int), { frames := 0, cells := 0, slots := 0, locals := 0 }, []), rw_X6_rate, false),
  ((yX6_isSameAs, cX6_isSameAs, 4, (some .boolean), { frames := 1, cells := 0, slots := 0, locals := 21 }, []), rw_X6_isSameAs, false),
  ((yX7_init, cX7_init, 2, none, { frames := 1, cells := 0, slots := 0, locals := 20 }, []), rw_X7_init, true),
  ((yX7_isGone, cX7_isGone, 1, (some .boolean), { frames := 0, cells := 0, slots := 0, locals := 0 }, []), rw_X7_isGone, false),
  ((yX7_stands, cX7_stands, 1, (some .boolean), { frames := 0, cells := 0, slots := 0, locals := 0 }, []), rw_X7_stands, false)]
theorem m_al_ok_4 : ∀ z ∈ m_al_4, m_okA z := List.forall_mem_cons.mpr ⟨⟨ok_X5_placeOf, (fun h => by cases h), by decide +kernel⟩, List.forall_mem_cons.mpr ⟨⟨ok_X5_put, (fun h => by cases h), by decide +kernel⟩, List.forall_mem_cons.mpr ⟨⟨ok_X5_makeGapAt, (fun h => by cases h), by decide +kernel⟩, List.forall_mem_cons.mpr ⟨⟨ok_X5_closeGapAt, (fun h => by cases h), by decide +kernel⟩, List.forall_mem_cons.mpr ⟨⟨ok_X5_takeOver, (fun h => by cases h), by decide +kernel⟩, List.forall_mem_cons.mpr ⟨⟨ok_X5_collect, (fun h => by cases h), by decide +kernel⟩, List.forall_mem_cons.mpr ⟨⟨ok_X5_nextDifference, (fun h => by cases h), by decide +kernel⟩, List.forall_mem_cons.mpr ⟨⟨ok_X5_differencesFrom, (fun h => by cases h), by decide +kernel⟩, List.forall_mem_cons.mpr ⟨⟨ok_X6_init, (fun h => rfl), by decide +kernel⟩, List.forall_mem_cons.mpr ⟨⟨ok_X6_clear, (fun h => by cases h), by decide +kernel⟩, List.forall_mem_cons.mpr ⟨⟨ok_X6_positionIn, (fun h => by cases h), by decide +kernel⟩, List.forall_mem_cons.mpr ⟨⟨ok_X6_take, (fun h => by cases h), by decide +kernel⟩, List.forall_mem_cons.mpr ⟨⟨ok_X6_holdsNothing, (fun h => by cases h), by decide +kernel⟩, List.forall_mem_cons.mpr ⟨⟨ok_X6_condition, (fun h => by cases h), by decide +kernel⟩, List.forall_mem_cons.mpr ⟨⟨ok_X6_amountOf, (fun h => by cases h), by decide +kernel⟩, List.forall_mem_cons.mpr ⟨⟨ok_X6_rate, (fun h => by cases h), by decide +kernel⟩, List.forall_mem_cons.mpr ⟨⟨ok_X6_isSameAs, (fun h => by cases h), by decide +kernel⟩, List.forall_mem_cons.mpr ⟨⟨ok_X7_init, (fun h => rfl), by decide +kernel⟩, List.forall_mem_cons.mpr ⟨⟨ok_X7_isGone, (fun h => by cases h), by decide +kernel⟩, List.forall_mem_cons.mpr ⟨⟨ok_X7_stands, (fun h => by cases h), by decide +kernel⟩, fun _ h => absurd h List.not_mem_nil⟩⟩⟩⟩⟩⟩⟩⟩⟩⟩⟩⟩⟩⟩⟩⟩⟩⟩⟩⟩
def m_al_5 : List mAl := [((yX7_standsIn, cX7_standsIn, 3, (some .boolean), { frames := 0, cells := 0, slots := 0, locals := 0 }, []), rw_X7_standsIn, false),
  ((yX7_canBeTied, cX7_canBeTied, 1, (some .boolean), { frames := 0, cells := 0, slots := 0, locals := 0 }, []), rw_X7_canBeTied, false),
  ((yX7_isAheadOf, cX7_isAheadOf, 2, (some .boolean), { frames := 0, cells := 0, slots := 0, locals := 0 }, []), rw_X7_isAheadOf, false),
  ((yX7_isGoodFor, cX7_isGoodFor, 2, (some .boolean), { frames := 0, cells := 0, slots := 0, locals := 0 }, []), rw_X7_isGoodFor, false),
  ((yX7_wakesAt, cX7_wakesAt, 2, (some .boolean), { frames := 0, cells := 0, slots := 0, locals := 0 }, []), rw_X7_wakesAt, false),
  ((yX7_showAnew, cX7_showAnew, 1, none, { frames := 0, cells := 0, slots := 0, locals := 0 }, []), rw_X7_showAnew, false),
  ((yX7_goAway, cX7_goAway, 1, none, { frames := 0, cells := 0, slots := 0, locals := 0 }, []), rw_X7_goAway, false),
  ((yX7_divideBy, cX7_divideBy, 2, none, { frames := 2, cells := 0, slots := 0, locals := 44 }, []), rw_X7_divideBy, false),
  ((yX7_isSameAs, cX7_isSameAs, 2, (some .boolean), { frames := 1, cells := 0, slots := 0, locals := 20 }, []), rw_X7_isSameAs, false),
  ((yX7_tiedNumber, cX7_tiedNumber, 1, (some .int), { frames := 0, cells := 0, slots := 0, locals := 0 }, []), rw_X7_tiedNumber, false),
  ((yX8_init, cX8_init, 2, none, { frames := 1, cells := 0, slots := 0, locals := 20 }, []), rw_X8_init, true),
  ((yX8_clear, cX8_clear, 1, none, { frames := 0, cells := 0, slots := 0, locals := 0 }, []), rw_X8_clear, false),
  ((yX8_wakesStops, cX8_wakesStops, 1, (some .boolean), { frames := 0, cells := 0, slots := 0, locals := 0 }, []), rw_X8_wakesStops, false),
  ((yX8_isTooFar, cX8_isTooFar, 2, (some .boolean), { frames := 1, cells := 0, slots := 0, locals := 23 }, []), rw_X8_isTooFar, false),
  ((yX8_tradedAt, cX8_tradedAt, 2, none, { frames := 0, cells := 0, slots := 0, locals := 0 }, []), rw_X8_tradedAt, false),
  ((yX8_changeBand, cX8_changeBand, 3, (some .int), { frames := 0, cells := 0, slots := 0, locals := 0 }, []), rw_X8_changeBand, false),
  ((yX8_divideBy, cX8_divideBy, 2, none, { frames := 2, cells := 0, slots := 0, locals := 44 }, []), rw_X8_divideBy, false),
  ((yX8_partOf, cX8_partOf, 2, (some .int), { frames := 1, cells := 0, slots := 0, locals := 23 }, []), rw_X8_partOf, false),
  ((yX8_isSameAs, cX8_isSameAs, 2, (some .boolean), { frames := 0, cells := 0, slots := 0, locals := 0 }, []), rw_X8_isSameAs, false),
  ((yX9_init, cX9_init, 1, none, { frames := 2, cells := 3, slots := 963, locals := 40 }, []), rw_X9_init, true)]
theorem m_al_ok_5 : ∀ z ∈ m_al_5, m_okA z := List.forall_mem_cons.mpr ⟨⟨ok_X7_standsIn, (fun h => by cases h), by decide +kernel⟩, List.forall_mem_cons.mpr ⟨⟨ok_X7_canBeTied, (fun h => by cases h), by decide +kernel⟩, List.forall_mem_cons.mpr ⟨⟨ok_X7_isAheadOf, (fun h => by cases h), by decide +kernel⟩, List.forall_mem_cons.mpr ⟨⟨ok_X7_isGoodFor, (fun h => by cases h), by decide +kernel⟩, List.forall_mem_cons.mpr ⟨⟨ok_X7_wakesAt, (fun h => by cases h), by decide +kernel⟩, List.forall_mem_cons.mpr ⟨⟨ok_X7_showAnew, (fun h => by cases h), by decide +kernel⟩, List.forall_mem_cons.mpr ⟨⟨ok_X7_goAway, (fun h => by cases h), by decide +kernel⟩, List.forall_mem_cons.mpr ⟨⟨ok_X7_divideBy, (fun h => by cases h), by decide +kernel⟩, List.forall_mem_cons.mpr ⟨⟨ok_X7_isSameAs, (fun h => by cases h), by decide +kernel⟩, List.forall_mem_cons.mpr ⟨⟨ok_X7_tiedNumber, (fun h => by cases h), by decide +kernel⟩, List.forall_mem_cons.mpr ⟨⟨ok_X8_init, (fun h => rfl), by decide +kernel⟩, List.forall_mem_cons.mpr ⟨⟨ok_X8_clear, (fun h => by cases h), by decide +kernel⟩, List.forall_mem_cons.mpr ⟨⟨ok_X8_wakesStops, (fun h => by cases h), by decide +kernel⟩, List.forall_mem_cons.mpr ⟨⟨ok_X8_isTooFar, (fun h => by cases h), by decide +kernel⟩, List.forall_mem_cons.mpr ⟨⟨ok_X8_tradedAt, (fun h => by cases h), by decide +kernel⟩, List.forall_mem_cons.mpr ⟨⟨ok_X8_changeBand, (fun h => by cases h), by decide +kernel⟩, List.forall_mem_cons.mpr ⟨⟨ok_X8_divideBy, (fun h => by cases h), by decide +kernel⟩, List.forall_mem_cons.mpr ⟨⟨ok_X8_partOf, (fun h => by cases h), by decide +kernel⟩, List.forall_mem_cons.mpr ⟨⟨ok_X8_isSameAs, (fun h => by cases h), by decide +kernel⟩, List.forall_mem_cons.mpr ⟨⟨ok_X9_init, (fun h => rfl), by decide +kernel⟩, fun _ h => absurd h List.not_mem_nil⟩⟩⟩⟩⟩⟩⟩⟩⟩⟩⟩⟩⟩⟩⟩⟩⟩⟩⟩⟩
def m_al_6 : List mAl := [((yX10_init, cX10_init, 1, none, { frames := 1, cells := 0, slots := 0, locals := 20 }, []), rw_X10_init, true),
  ((yX10_tells, cX10_tells, 2, (some .int), { frames := 0, cells := 0, slots := 0, locals := 0 }, []), rw_X10_tells, false),
  ((yX10_isSameAs, cX10_isSameAs, 2, (some .boolean), { frames := 0, cells := 0, slots := 0, locals := 0 }, []), rw_X10_isSameAs, false),
  ((yX11_init, cX11_init, 1, none, { frames := 4, cells := 365, slots := 7955, locals := 82 }, []), rw_X11_init, true),
  ((yX11_deposit, cX11_deposit, 4, (some .long), { frames := 7, cells := 4, slots := 27, locals := 190 }, []), rw_X11_deposit, false),
  ((yX11_fund, cX11_fund, 4, (some .long), { frames := 7, cells := 4, slots := 27, locals := 190 }, []), rw_X11_fund, false),
  ((yX11_order, cX11_order, 9, (some .int), { frames := 7, cells := 5, slots := 33, locals := 190 }, []), rw_X11_order, false),
  ((yX11_stop, cX11_stop, 8, (some .int), { frames := 7, cells := 4, slots := 27, locals := 190 }, []), rw_X11_stop, false),
  ((yX11_tie, cX11_tie, 6, none, { frames := 7, cells := 4, slots := 27, locals := 190 }, []), rw_X11_tie, false),
  ((yX11_cancel, cX11_cancel, 4, (some .int), { frames := 7, cells := 3, slots := 21, locals := 190 }, []), rw_X11_cancel, false),
  ((yX11_spread, cX11_spread, 7, (some .int), { frames := 7, cells := 6, slots := 39, locals := 190 }, []), rw_X11_spread, false),
  ((yX11_standing, cX11_standing, 3, (some .int), { frames := 6, cells := 1, slots := 6, locals := 90 }, []), rw_X11_standing, false),
  ((yX11_best, cX11_best, 4, (some .int), { frames := 7, cells := 2, slots := 12, locals := 110 }, []), rw_X11_best, false),
  ((yX11_shown, cX11_shown, 4, (some .int), { frames := 7, cells := 2, slots := 12, locals := 110 }, []), rw_X11_shown, false),
  ((yX11_band, cX11_band, 4, (some .int), { frames := 7, cells := 3, slots := 21, locals := 190 }, []), rw_X11_band, false),
  ((yX11_halt, cX11_halt, 3, none, { frames := 7, cells := 3, slots := 21, locals := 190 }, []), rw_X11_halt, false),
  ((yX11_indicated, cX11_indicated, 5, (some .long), { frames := 6, cells := 1, slots := 6, locals := 105 }, []), rw_X11_indicated, false),
  ((yX11_open, cX11_open, 3, (some .int), { frames := 7, cells := 3, slots := 21, locals := 190 }, []), rw_X11_open, false),
  ((yX11_split, cX11_split, 5, (some .int), { frames := 7, cells := 4, slots := 27, locals := 190 }, []), rw_X11_split, false),
  ((yX11_dividend, cX11_dividend, 4, (some .long), { frames := 7, cells := 3, slots := 21, locals := 190 }, []), rw_X11_dividend, false)]
theorem m_al_ok_6 : ∀ z ∈ m_al_6, m_okA z := List.forall_mem_cons.mpr ⟨⟨ok_X10_init, (fun h => rfl), by decide +kernel⟩, List.forall_mem_cons.mpr ⟨⟨ok_X10_tells, (fun h => by cases h), by decide +kernel⟩, List.forall_mem_cons.mpr ⟨⟨ok_X10_isSameAs, (fun h => by cases h), by decide +kernel⟩, List.forall_mem_cons.mpr ⟨⟨ok_X11_init, (fun h => rfl), by decide +kernel⟩, List.forall_mem_cons.mpr ⟨⟨ok_X11_deposit, (fun h => by cases h), by decide +kernel⟩, List.forall_mem_cons.mpr ⟨⟨ok_X11_fund, (fun h => by cases h), by decide +kernel⟩, List.forall_mem_cons.mpr ⟨⟨ok_X11_order, (fun h => by cases h), by decide +kernel⟩, List.forall_mem_cons.mpr ⟨⟨ok_X11_stop, (fun h => by cases h), by decide +kernel⟩, List.forall_mem_cons.mpr ⟨⟨ok_X11_tie, (fun h => by cases h), by decide +kernel⟩, List.forall_mem_cons.mpr ⟨⟨ok_X11_cancel, (fun h => by cases h), by decide +kernel⟩, List.forall_mem_cons.mpr ⟨⟨ok_X11_spread, (fun h => by cases h), by decide +kernel⟩, List.forall_mem_cons.mpr ⟨⟨ok_X11_standing, (fun h => by cases h), by decide +kernel⟩, List.forall_mem_cons.mpr ⟨⟨ok_X11_best, (fun h => by cases h), by decide +kernel⟩, List.forall_mem_cons.mpr ⟨⟨ok_X11_shown, (fun h => by cases h), by decide +kernel⟩, List.forall_mem_cons.mpr ⟨⟨ok_X11_band, (fun h => by cases h), by decide +kernel⟩, List.forall_mem_cons.mpr ⟨⟨ok_X11_halt, (fun h => by cases h), by decide +kernel⟩, List.forall_mem_cons.mpr ⟨⟨ok_X11_indicated, (fun h => by cases h), by decide +kernel⟩, List.forall_mem_cons.mpr ⟨⟨ok_X11_open, (fun h => by cases h), by decide +kernel⟩, List.forall_mem_cons.mpr ⟨⟨ok_X11_split, (fun h => by cases h), by decide +kernel⟩, List.forall_mem_cons.mpr ⟨⟨ok_X11_dividend, (fun h => by cases h), by decide +kernel⟩, fun _ h => absurd h List.not_mem_nil⟩⟩⟩⟩⟩⟩⟩⟩⟩⟩⟩⟩⟩⟩⟩⟩⟩⟩⟩⟩
def m_al_7 : List mAl := [((yX11_instrument, cX11_instrument, 3, (some .int), { frames := 6, cells := 1, slots := 6, locals := 90 }, []), rw_X11_instrument, false),
  ((yX11_trades, cX11_trades, 1, (some .int), { frames := 0, cells := 0, slots := 0, locals := 0 }, []), rw_X11_trades, false),
  ((yX11_trade, cX11_trade, 4, (some .int), { frames := 7, cells := 2, slots := 12, locals := 110 }, []), rw_X11_trade, false),
  ((yX11_breakTrade, cX11_breakTrade, 4, none, { frames := 7, cells := 3, slots := 21, locals := 190 }, []), rw_X11_breakTrade, false),
  ((yX11_position, cX11_position, 4, (some .long), { frames := 6, cells := 1, slots := 6, locals := 90 }, []), rw_X11_position, false),
  ((yX11_money, cX11_money, 4, (some .long), { frames := 7, cells := 2, slots := 12, locals := 110 }, []), rw_X11_money, false),
  ((yX11_scenario, cX11_scenario, 5, (some .int), { frames := 7, cells := 3, slots := 21, locals := 190 }, []), rw_X11_scenario, false),
  ((yX11_margin, cX11_margin, 3, (some .long), { frames := 6, cells := 1, slots := 6, locals := 90 }, []), rw_X11_margin, false),
  ((yX11_worth, cX11_worth, 3, (some .long), { frames := 6, cells := 1, slots := 6, locals := 90 }, []), rw_X11_worth, false),
  ((yX11_member, cX11_member, 3, (some .int), { frames := 6, cells := 1, slots := 6, locals := 90 }, []), rw_X11_member, false),
  ((yX11_tick, cX11_tick, 3, (some .int), { frames := 7, cells := 2, slots := 15, locals := 190 }, []), rw_X11_tick, false),
  ((yX11_sell, cX11_sell, 5, (some .long), { frames := 7, cells := 4, slots := 27, locals := 190 }, []), rw_X11_sell, false),
  ((yX11_settle, cX11_settle, 2, (some .long), { frames := 7, cells := 2, slots := 15, locals := 190 }, []), rw_X11_settle, false),
  ((yX11_read, cX11_read, 3, (some .int), { frames := 6, cells := 1, slots := 6, locals := 90 }, []), rw_X11_read, false),
  ((yX11_lose, cX11_lose, 3, (some .int), { frames := 7, cells := 2, slots := 12, locals := 110 }, []), rw_X11_lose, false),
  ((yX11_copy, cX11_copy, 3, (some .int), { frames := 6, cells := 1, slots := 6, locals := 90 }, []), rw_X11_copy, false),
  ((yX11_wrong, cX11_wrong, 3, (some .int), { frames := 6, cells := 1, slots := 6, locals := 94 }, []), rw_X11_wrong, false),
  ((yX11_replays, cX11_replays, 3, (some .boolean), { frames := 7, cells := 347, slots := 4031, locals := 190 }, []), rw_X11_replays, false),
  ((yX11_done, cX11_done, 5, (some .long), { frames := 4, cells := 0, slots := 0, locals := 93 }, []), rw_X11_done, false),
  ((yX11_keep, cX11_keep, 2, none, { frames := 0, cells := 0, slots := 0, locals := 0 }, []), rw_X11_keep, false)]
theorem m_al_ok_7 : ∀ z ∈ m_al_7, m_okA z := List.forall_mem_cons.mpr ⟨⟨ok_X11_instrument, (fun h => by cases h), by decide +kernel⟩, List.forall_mem_cons.mpr ⟨⟨ok_X11_trades, (fun h => by cases h), by decide +kernel⟩, List.forall_mem_cons.mpr ⟨⟨ok_X11_trade, (fun h => by cases h), by decide +kernel⟩, List.forall_mem_cons.mpr ⟨⟨ok_X11_breakTrade, (fun h => by cases h), by decide +kernel⟩, List.forall_mem_cons.mpr ⟨⟨ok_X11_position, (fun h => by cases h), by decide +kernel⟩, List.forall_mem_cons.mpr ⟨⟨ok_X11_money, (fun h => by cases h), by decide +kernel⟩, List.forall_mem_cons.mpr ⟨⟨ok_X11_scenario, (fun h => by cases h), by decide +kernel⟩, List.forall_mem_cons.mpr ⟨⟨ok_X11_margin, (fun h => by cases h), by decide +kernel⟩, List.forall_mem_cons.mpr ⟨⟨ok_X11_worth, (fun h => by cases h), by decide +kernel⟩, List.forall_mem_cons.mpr ⟨⟨ok_X11_member, (fun h => by cases h), by decide +kernel⟩, List.forall_mem_cons.mpr ⟨⟨ok_X11_tick, (fun h => by cases h), by decide +kernel⟩, List.forall_mem_cons.mpr ⟨⟨ok_X11_sell, (fun h => by cases h), by decide +kernel⟩, List.forall_mem_cons.mpr ⟨⟨ok_X11_settle, (fun h => by cases h), by decide +kernel⟩, List.forall_mem_cons.mpr ⟨⟨ok_X11_read, (fun h => by cases h), by decide +kernel⟩, List.forall_mem_cons.mpr ⟨⟨ok_X11_lose, (fun h => by cases h), by decide +kernel⟩, List.forall_mem_cons.mpr ⟨⟨ok_X11_copy, (fun h => by cases h), by decide +kernel⟩, List.forall_mem_cons.mpr ⟨⟨ok_X11_wrong, (fun h => by cases h), by decide +kernel⟩, List.forall_mem_cons.mpr ⟨⟨ok_X11_replays, (fun h => by cases h), by decide +kernel⟩, List.forall_mem_cons.mpr ⟨⟨ok_X11_done, (fun h => by cases h), by decide +kernel⟩, List.forall_mem_cons.mpr ⟨⟨ok_X11_keep, (fun h => by cases h), by decide +kernel⟩, fun _ h => absurd h List.not_mem_nil⟩⟩⟩⟩⟩⟩⟩⟩⟩⟩⟩⟩⟩⟩⟩⟩⟩⟩⟩⟩
def m_al_8 : List mAl := [((yX11_mustExist, cX11_mustExist, 1, none, { frames := 6, cells := 1, slots := 6, locals := 90 }, []), rw_X11_mustExist, false),
  ((yX11_mustFit, cX11_mustFit, 1, none, { frames := 6, cells := 1, slots := 6, locals := 90 }, []), rw_X11_mustFit, false),
  ((yX11_mustBePossible, cX11_mustBePossible, 1, none, { frames := 6, cells := 1, slots := 6, locals := 90 }, []), rw_X11_mustBePossible, false),
  ((yX11_isBetween, cX11_isBetween, 3, (some .boolean), { frames := 0, cells := 0, slots := 0, locals := 0 }, []), rw_X11_isBetween, false),
  ((yX11_isMember, cX11_isMember, 1, (some .boolean), { frames := 1, cells := 0, slots := 0, locals := 22 }, []), rw_X11_isMember, false),
  ((yX11_isMemberOrHouse, cX11_isMemberOrHouse, 1, (some .boolean), { frames := 2, cells := 0, slots := 0, locals := 42 }, []), rw_X11_isMemberOrHouse, false),
  ((yX11_isInstrument, cX11_isInstrument, 1, (some .boolean), { frames := 1, cells := 0, slots := 0, locals := 22 }, []), rw_X11_isInstrument, false),
  ((yX11_isSide, cX11_isSide, 1, (some .boolean), { frames := 0, cells := 0, slots := 0, locals := 0 }, []), rw_X11_isSide, false),
  ((yX11_isPrice, cX11_isPrice, 1, (some .boolean), { frames := 1, cells := 0, slots := 0, locals := 22 }, []), rw_X11_isPrice, false),
  ((yX11_isPercent, cX11_isPercent, 1, (some .boolean), { frames := 1, cells := 0, slots := 0, locals := 22 }, []), rw_X11_isPercent, false),
  ((yX11_isOrder, cX11_isOrder, 3, (some .boolean), { frames := 2, cells := 0, slots := 0, locals := 42 }, []), rw_X11_isOrder, false),
  ((yL_part, cL_part, 4, (some .int), { frames := 0, cells := 0, slots := 0, locals := 0 }, []), rw_L_part, false),
  ((yL_does, cL_does, 10, (some .long), { frames := 8, cells := 66, slots := 438, locals := 218 }, [(0, 396, 397, 94), (0, 396, 403, 98), (0, 396, 409, 102)]), rw_L_does, false),
  ((yL_acts, cL_acts, 5, (some .int), { frames := 9, cells := 10, slots := 69, locals := 237 }, [(0, 31, 32, 94), (0, 31, 37, 98), (0, 31, 42, 102)]), rw_L_acts, false),
  ((yL_tied, cL_tied, 3, (some .int), { frames := 8, cells := 4, slots := 27, locals := 215 }, []), rw_L_tied, false),
  ((yL_halted, cL_halted, 2, (some .int), { frames := 8, cells := 3, slots := 21, locals := 212 }, []), rw_L_halted, false),
  ((yL_broken, cL_broken, 2, (some .int), { frames := 8, cells := 3, slots := 21, locals := 213 }, []), rw_L_broken, false),
  ((yL_isMoney, cL_isMoney, 9, (some .boolean), { frames := 8, cells := 60, slots := 540, locals := 133 }, []), rw_L_isMoney, false),
  ((yL_isMember, cL_isMember, 12, (some .boolean), { frames := 8, cells := 60, slots := 540, locals := 133 }, []), rw_L_isMember, false),
  ((yL_isShown, cL_isShown, 13, (some .boolean), { frames := 8, cells := 80, slots := 720, locals := 133 }, []), rw_L_isShown, false)]
theorem m_al_ok_8 : ∀ z ∈ m_al_8, m_okA z := List.forall_mem_cons.mpr ⟨⟨ok_X11_mustExist, (fun h => by cases h), by decide +kernel⟩, List.forall_mem_cons.mpr ⟨⟨ok_X11_mustFit, (fun h => by cases h), by decide +kernel⟩, List.forall_mem_cons.mpr ⟨⟨ok_X11_mustBePossible, (fun h => by cases h), by decide +kernel⟩, List.forall_mem_cons.mpr ⟨⟨ok_X11_isBetween, (fun h => by cases h), by decide +kernel⟩, List.forall_mem_cons.mpr ⟨⟨ok_X11_isMember, (fun h => by cases h), by decide +kernel⟩, List.forall_mem_cons.mpr ⟨⟨ok_X11_isMemberOrHouse, (fun h => by cases h), by decide +kernel⟩, List.forall_mem_cons.mpr ⟨⟨ok_X11_isInstrument, (fun h => by cases h), by decide +kernel⟩, List.forall_mem_cons.mpr ⟨⟨ok_X11_isSide, (fun h => by cases h), by decide +kernel⟩, List.forall_mem_cons.mpr ⟨⟨ok_X11_isPrice, (fun h => by cases h), by decide +kernel⟩, List.forall_mem_cons.mpr ⟨⟨ok_X11_isPercent, (fun h => by cases h), by decide +kernel⟩, List.forall_mem_cons.mpr ⟨⟨ok_X11_isOrder, (fun h => by cases h), by decide +kernel⟩, List.forall_mem_cons.mpr ⟨⟨ok_L_part, (fun h => by cases h), by decide +kernel⟩, List.forall_mem_cons.mpr ⟨⟨ok_L_does, (fun h => by cases h), by decide +kernel⟩, List.forall_mem_cons.mpr ⟨⟨ok_L_acts, (fun h => by cases h), by decide +kernel⟩, List.forall_mem_cons.mpr ⟨⟨ok_L_tied, (fun h => by cases h), by decide +kernel⟩, List.forall_mem_cons.mpr ⟨⟨ok_L_halted, (fun h => by cases h), by decide +kernel⟩, List.forall_mem_cons.mpr ⟨⟨ok_L_broken, (fun h => by cases h), by decide +kernel⟩, List.forall_mem_cons.mpr ⟨⟨ok_L_isMoney, (fun h => by cases h), by decide +kernel⟩, List.forall_mem_cons.mpr ⟨⟨ok_L_isMember, (fun h => by cases h), by decide +kernel⟩, List.forall_mem_cons.mpr ⟨⟨ok_L_isShown, (fun h => by cases h), by decide +kernel⟩, fun _ h => absurd h List.not_mem_nil⟩⟩⟩⟩⟩⟩⟩⟩⟩⟩⟩⟩⟩⟩⟩⟩⟩⟩⟩⟩
def m_al_9 : List mAl := [((yL_areOrders, cL_areOrders, 7, (some .boolean), { frames := 9, cells := 270, slots := 2430, locals := 247 }, []), rw_L_areOrders, false),
  ((yL_areTrades, cL_areTrades, 5, (some .boolean), { frames := 8, cells := 2100, slots := 18900, locals := 133 }, []), rw_L_areTrades, false),
  ((yL_hasFailed, cL_hasFailed, 2, (some .boolean), { frames := 7, cells := 1, slots := 6, locals := 112 }, []), rw_L_hasFailed, false),
  ((yL_isPaid, cL_isPaid, 10, (some .boolean), { frames := 9, cells := 133, slots := 882, locals := 247 }, []), rw_L_isPaid, false),
  ((yL_isOrder, cL_isOrder, 19, (some .boolean), { frames := 9, cells := 2200, slots := 19800, locals := 247 }, []), rw_L_isOrder, false),
  ((yL_isStop, cL_isStop, 12, (some .boolean), { frames := 9, cells := 68, slots := 450, locals := 247 }, []), rw_L_isStop, false),
  ((yL_isGone, cL_isGone, 13, (some .boolean), { frames := 10, cells := 91, slots := 606, locals := 261 }, []), rw_L_isGone, false),
  ((yL_isInstrument, cL_isInstrument, 14, (some .boolean), { frames := 10, cells := 2300, slots := 20700, locals := 261 }, []), rw_L_isInstrument, false),
  ((yL_isHouse, cL_isHouse, 13, (some .boolean), { frames := 10, cells := 200, slots := 1800, locals := 261 }, []), rw_L_isHouse, false),
  ((yL_isRead, cL_isRead, 4, (some .boolean), { frames := 9, cells := 269, slots := 1782, locals := 247 }, []), rw_L_isRead, false)]
theorem m_al_ok_9 : ∀ z ∈ m_al_9, m_okA z := List.forall_mem_cons.mpr ⟨⟨ok_L_areOrders, (fun h => by cases h), by decide +kernel⟩, List.forall_mem_cons.mpr ⟨⟨ok_L_areTrades, (fun h => by cases h), by decide +kernel⟩, List.forall_mem_cons.mpr ⟨⟨ok_L_hasFailed, (fun h => by cases h), by decide +kernel⟩, List.forall_mem_cons.mpr ⟨⟨ok_L_isPaid, (fun h => by cases h), by decide +kernel⟩, List.forall_mem_cons.mpr ⟨⟨ok_L_isOrder, (fun h => by cases h), by decide +kernel⟩, List.forall_mem_cons.mpr ⟨⟨ok_L_isStop, (fun h => by cases h), by decide +kernel⟩, List.forall_mem_cons.mpr ⟨⟨ok_L_isGone, (fun h => by cases h), by decide +kernel⟩, List.forall_mem_cons.mpr ⟨⟨ok_L_isInstrument, (fun h => by cases h), by decide +kernel⟩, List.forall_mem_cons.mpr ⟨⟨ok_L_isHouse, (fun h => by cases h), by decide +kernel⟩, List.forall_mem_cons.mpr ⟨⟨ok_L_isRead, (fun h => by cases h), by decide +kernel⟩, fun _ h => absurd h List.not_mem_nil⟩⟩⟩⟩⟩⟩⟩⟩⟩⟩
def m_al : List mAl := m_al_0 ++ (m_al_1 ++ (m_al_2 ++ (m_al_3 ++ (m_al_4 ++ (m_al_5 ++ (m_al_6 ++ (m_al_7 ++ (m_al_8 ++ (m_al_9)))))))))
theorem m_al_ok : ∀ z ∈ m_al, m_okA z := by
  intro z h
  rcases List.mem_append.mp h with h | h
  · exact m_al_ok_0 z h
  rcases List.mem_append.mp h with h | h
  · exact m_al_ok_1 z h
  rcases List.mem_append.mp h with h | h
  · exact m_al_ok_2 z h
  rcases List.mem_append.mp h with h | h
  · exact m_al_ok_3 z h
  rcases List.mem_append.mp h with h | h
  · exact m_al_ok_4 z h
  rcases List.mem_append.mp h with h | h
  · exact m_al_ok_5 z h
  rcases List.mem_append.mp h with h | h
  · exact m_al_ok_6 z h
  rcases List.mem_append.mp h with h | h
  · exact m_al_ok_7 z h
  rcases List.mem_append.mp h with h | h
  · exact m_al_ok_8 z h
  exact m_al_ok_9 z h
set_option maxRecDepth 100000 in
theorem m_al_mt : m_al.map (fun z => z.1) ++ [(m_yfm, prog_19_method_50_code, 3, some .int, { frames := 0, cells := 0, slots := 0, locals := 0 }, [])] = m_mt := rfl
theorem m_al_at {j : Nat} {z : mAl} (h : m_al[j]? = some z) : m_mt[j]? = some z.1 := by
  have e1 : (m_al.map (fun z => z.1))[j]? = some z.1 := by rw [List.getElem?_map, h]; rfl
  rw [← m_al_mt, List.getElem?_append_left (List.getElem?_eq_some_iff.mp e1).1]
  exact e1
