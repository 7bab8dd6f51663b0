section
-- ===== PART A: goes FIRST, ahead of the names: the tables' words, and 'selects' of the private methods out of them =====
/-- a private method of a class that the tables say can be made, by its rows of tables_1 -/
def lw_okq (q : MethodName × Nat) : Prop := (q.1.cls ≠ "java/lang/invoke/MethodHandle" ∧ q.1.cls ≠ "java/lang/invoke/VarHandle") ∧ Cond.instantiable q.1.cls q.2 ∈ tables_1 ∧ Cond.privateMethod q.1 ∈ tables_1 ∧ Cond.instanceMethod q.1 ∈ tables_1
theorem lw_p0 : lw_okq (⟨"NettingHall$Hall", "letOrderCome", "(LNettingHall$Call;)I"⟩, 2) := ⟨⟨by decide +kernel, by decide +kernel⟩, List.mem_of_getElem? (i := 30) (by decide +kernel), List.mem_of_getElem? (i := 457) (by decide +kernel), List.mem_of_getElem? (i := 458) (by decide +kernel)⟩
theorem lw_p1 : lw_okq (⟨"NettingHall$Hall", "enter", "(LNettingHall$Order;Z)V"⟩, 2) := ⟨⟨by decide +kernel, by decide +kernel⟩, List.mem_of_getElem? (i := 30) (by decide +kernel), List.mem_of_getElem? (i := 485) (by decide +kernel), List.mem_of_getElem? (i := 486) (by decide +kernel)⟩
theorem lw_p2 : lw_okq (⟨"NettingHall$Hall", "tradeWith", "(LNettingHall$Order;LNettingHall$Order;LNettingHall$Paper;I)V"⟩, 2) := ⟨⟨by decide +kernel, by decide +kernel⟩, List.mem_of_getElem? (i := 30) (by decide +kernel), List.mem_of_getElem? (i := 517) (by decide +kernel), List.mem_of_getElem? (i := 518) (by decide +kernel)⟩
theorem lw_p3 : lw_okq (⟨"NettingHall$Hall", "letStopWait", "(LNettingHall$Call;)I"⟩, 2) := ⟨⟨by decide +kernel, by decide +kernel⟩, List.mem_of_getElem? (i := 30) (by decide +kernel), List.mem_of_getElem? (i := 562) (by decide +kernel), List.mem_of_getElem? (i := 563) (by decide +kernel)⟩
theorem lw_p4 : lw_okq (⟨"NettingHall$Hall", "tieOrders", "(II)I"⟩, 2) := ⟨⟨by decide +kernel, by decide +kernel⟩, List.mem_of_getElem? (i := 30) (by decide +kernel), List.mem_of_getElem? (i := 566) (by decide +kernel), List.mem_of_getElem? (i := 567) (by decide +kernel)⟩
theorem lw_p5 : lw_okq (⟨"NettingHall$Hall", "cancelOrder", "(I)I"⟩, 2) := ⟨⟨by decide +kernel, by decide +kernel⟩, List.mem_of_getElem? (i := 30) (by decide +kernel), List.mem_of_getElem? (i := 574) (by decide +kernel), List.mem_of_getElem? (i := 575) (by decide +kernel)⟩
theorem lw_p6 : lw_okq (⟨"NettingHall$Hall", "letSpreadCome", "(IIIII)I"⟩, 2) := ⟨⟨by decide +kernel, by decide +kernel⟩, List.mem_of_getElem? (i := 30) (by decide +kernel), List.mem_of_getElem? (i := 583) (by decide +kernel), List.mem_of_getElem? (i := 584) (by decide +kernel)⟩
theorem lw_p7 : lw_okq (⟨"NettingHall$Hall", "tradeSpread", "(ILNettingHall$Order;LNettingHall$Order;I)I"⟩, 2) := ⟨⟨by decide +kernel, by decide +kernel⟩, List.mem_of_getElem? (i := 30) (by decide +kernel), List.mem_of_getElem? (i := 587) (by decide +kernel), List.mem_of_getElem? (i := 588) (by decide +kernel)⟩
theorem lw_p8 : lw_okq (⟨"NettingHall$Hall", "changePaper", "(LNettingHall$Call;)J"⟩, 2) := ⟨⟨by decide +kernel, by decide +kernel⟩, List.mem_of_getElem? (i := 30) (by decide +kernel), List.mem_of_getElem? (i := 591) (by decide +kernel), List.mem_of_getElem? (i := 592) (by decide +kernel)⟩
theorem lw_p9 : lw_okq (⟨"NettingHall$Hall", "openPaper", "(LNettingHall$Paper;)I"⟩, 2) := ⟨⟨by decide +kernel, by decide +kernel⟩, List.mem_of_getElem? (i := 30) (by decide +kernel), List.mem_of_getElem? (i := 599) (by decide +kernel), List.mem_of_getElem? (i := 600) (by decide +kernel)⟩
theorem lw_p10 : lw_okq (⟨"NettingHall$Books", "opensBetter", "(IIII)Z"⟩, 3) := ⟨⟨by decide +kernel, by decide +kernel⟩, List.mem_of_getElem? (i := 36) (by decide +kernel), List.mem_of_getElem? (i := 611) (by decide +kernel), List.mem_of_getElem? (i := 612) (by decide +kernel)⟩
theorem lw_p11 : lw_okq (⟨"NettingHall$Hall", "tradeInOpening", "(LNettingHall$Paper;ILNettingHall$Order;LNettingHall$Order;I)I"⟩, 2) := ⟨⟨by decide +kernel, by decide +kernel⟩, List.mem_of_getElem? (i := 30) (by decide +kernel), List.mem_of_getElem? (i := 622) (by decide +kernel), List.mem_of_getElem? (i := 623) (by decide +kernel)⟩
theorem lw_p12 : lw_okq (⟨"NettingHall$Hall", "passTicks", "(I)I"⟩, 2) := ⟨⟨by decide +kernel, by decide +kernel⟩, List.mem_of_getElem? (i := 30) (by decide +kernel), List.mem_of_getElem? (i := 657) (by decide +kernel), List.mem_of_getElem? (i := 658) (by decide +kernel)⟩
theorem lw_p13 : lw_okq (⟨"NettingHall$Clearing", "lossBy", "(LNettingHall$Member;[I)J"⟩, 11) := ⟨⟨by decide +kernel, by decide +kernel⟩, List.mem_of_getElem? (i := 133) (by decide +kernel), List.mem_of_getElem? (i := 673) (by decide +kernel), List.mem_of_getElem? (i := 674) (by decide +kernel)⟩
theorem lw_p14 : lw_okq (⟨"NettingHall$Clearing", "takeShare", "(LNettingHall$Member;J)J"⟩, 11) := ⟨⟨by decide +kernel, by decide +kernel⟩, List.mem_of_getElem? (i := 133) (by decide +kernel), List.mem_of_getElem? (i := 704) (by decide +kernel), List.mem_of_getElem? (i := 705) (by decide +kernel)⟩
theorem lw_p15 : lw_okq (⟨"NettingHall$Clearing", "takeFromOthers", "(LNettingHall$Member;J)J"⟩, 11) := ⟨⟨by decide +kernel, by decide +kernel⟩, List.mem_of_getElem? (i := 133) (by decide +kernel), List.mem_of_getElem? (i := 708) (by decide +kernel), List.mem_of_getElem? (i := 709) (by decide +kernel)⟩
def lw_privs_1 : List (MethodName × Nat) := [(⟨"NettingHall$Hall", "letOrderCome", "(LNettingHall$Call;)I"⟩, 2), (⟨"NettingHall$Hall", "enter", "(LNettingHall$Order;Z)V"⟩, 2), (⟨"NettingHall$Hall", "tradeWith", "(LNettingHall$Order;LNettingHall$Order;LNettingHall$Paper;I)V"⟩, 2), (⟨"NettingHall$Hall", "letStopWait", "(LNettingHall$Call;)I"⟩, 2), (⟨"NettingHall$Hall", "tieOrders", "(II)I"⟩, 2), (⟨"NettingHall$Hall", "cancelOrder", "(I)I"⟩, 2), (⟨"NettingHall$Hall", "letSpreadCome", "(IIIII)I"⟩, 2), (⟨"NettingHall$Hall", "tradeSpread", "(ILNettingHall$Order;LNettingHall$Order;I)I"⟩, 2), (⟨"NettingHall$Hall", "changePaper", "(LNettingHall$Call;)J"⟩, 2), (⟨"NettingHall$Hall", "openPaper", "(LNettingHall$Paper;)I"⟩, 2), (⟨"NettingHall$Books", "opensBetter", "(IIII)Z"⟩, 3), (⟨"NettingHall$Hall", "tradeInOpening", "(LNettingHall$Paper;ILNettingHall$Order;LNettingHall$Order;I)I"⟩, 2), (⟨"NettingHall$Hall", "passTicks", "(I)I"⟩, 2), (⟨"NettingHall$Clearing", "lossBy", "(LNettingHall$Member;[I)J"⟩, 11), (⟨"NettingHall$Clearing", "takeShare", "(LNettingHall$Member;J)J"⟩, 11), (⟨"NettingHall$Clearing", "takeFromOthers", "(LNettingHall$Member;J)J"⟩, 11)]
theorem lw_r1 : ∀ q ∈ lw_privs_1, lw_okq q := List.forall_mem_cons.mpr ⟨lw_p0, List.forall_mem_cons.mpr ⟨lw_p1, List.forall_mem_cons.mpr ⟨lw_p2, List.forall_mem_cons.mpr ⟨lw_p3, List.forall_mem_cons.mpr ⟨lw_p4, List.forall_mem_cons.mpr ⟨lw_p5, List.forall_mem_cons.mpr ⟨lw_p6, List.forall_mem_cons.mpr ⟨lw_p7, List.forall_mem_cons.mpr ⟨lw_p8, List.forall_mem_cons.mpr ⟨lw_p9, List.forall_mem_cons.mpr ⟨lw_p10, List.forall_mem_cons.mpr ⟨lw_p11, List.forall_mem_cons.mpr ⟨lw_p12, List.forall_mem_cons.mpr ⟨lw_p13, List.forall_mem_cons.mpr ⟨lw_p14, List.forall_mem_cons.mpr ⟨lw_p15, fun _ h => absurd h List.not_mem_nil⟩⟩⟩⟩⟩⟩⟩⟩⟩⟩⟩⟩⟩⟩⟩⟩
theorem lw_p16 : lw_okq (⟨"NettingHall$Hall", "moveMoney", "(LNettingHall$Call;)J"⟩, 2) := ⟨⟨by decide +kernel, by decide +kernel⟩, List.mem_of_getElem? (i := 30) (by decide +kernel), List.mem_of_getElem? (i := 712) (by decide +kernel), List.mem_of_getElem? (i := 713) (by decide +kernel)⟩
theorem lw_p17 : lw_okq (⟨"NettingHall$Clearing", "payDividendTo", "(LNettingHall$Member;II)J"⟩, 11) := ⟨⟨by decide +kernel, by decide +kernel⟩, List.mem_of_getElem? (i := 133) (by decide +kernel), List.mem_of_getElem? (i := 732) (by decide +kernel), List.mem_of_getElem? (i := 733) (by decide +kernel)⟩
theorem lw_p18 : lw_okq (⟨"NettingHall$Hall", "wakeStops", "()V"⟩, 2) := ⟨⟨by decide +kernel, by decide +kernel⟩, List.mem_of_getElem? (i := 30) (by decide +kernel), List.mem_of_getElem? (i := 753) (by decide +kernel), List.mem_of_getElem? (i := 754) (by decide +kernel)⟩
theorem lw_p19 : lw_okq (⟨"NettingHall$Order", "tiedNumber", "()I"⟩, 13) := ⟨⟨by decide +kernel, by decide +kernel⟩, List.mem_of_getElem? (i := 43) (by decide +kernel), List.mem_of_getElem? (i := 782) (by decide +kernel), List.mem_of_getElem? (i := 783) (by decide +kernel)⟩
theorem lw_p20 : lw_okq (⟨"java/lang/Throwable", "fillInStackTrace", "(I)Ljava/lang/Throwable;"⟩, 6) := ⟨⟨by decide +kernel, by decide +kernel⟩, List.mem_of_getElem? (i := 860) (by decide +kernel), List.mem_of_getElem? (i := 858) (by decide +kernel), List.mem_of_getElem? (i := 859) (by decide +kernel)⟩
theorem lw_p21 : lw_okq (⟨"NettingHall", "done", "(LNettingHall$Call;J)J"⟩, 6) := ⟨⟨by decide +kernel, by decide +kernel⟩, List.mem_of_getElem? (i := 22) (by decide +kernel), List.mem_of_getElem? (i := 976) (by decide +kernel), List.mem_of_getElem? (i := 977) (by decide +kernel)⟩
theorem lw_p22 : lw_okq (⟨"NettingHall", "keep", "(LNettingHall$Call;)V"⟩, 6) := ⟨⟨by decide +kernel, by decide +kernel⟩, List.mem_of_getElem? (i := 22) (by decide +kernel), List.mem_of_getElem? (i := 981) (by decide +kernel), List.mem_of_getElem? (i := 982) (by decide +kernel)⟩
theorem lw_p23 : lw_okq (⟨"NettingHall$Levels", "placeOf", "(I)I"⟩, 3) := ⟨⟨by decide +kernel, by decide +kernel⟩, List.mem_of_getElem? (i := 351) (by decide +kernel), List.mem_of_getElem? (i := 1003) (by decide +kernel), List.mem_of_getElem? (i := 1004) (by decide +kernel)⟩
theorem lw_p24 : lw_okq (⟨"NettingHall$Levels", "closeGapAt", "(I)V"⟩, 3) := ⟨⟨by decide +kernel, by decide +kernel⟩, List.mem_of_getElem? (i := 351) (by decide +kernel), List.mem_of_getElem? (i := 1011) (by decide +kernel), List.mem_of_getElem? (i := 1012) (by decide +kernel)⟩
theorem lw_p25 : lw_okq (⟨"NettingHall$Levels", "makeGapAt", "(I)V"⟩, 3) := ⟨⟨by decide +kernel, by decide +kernel⟩, List.mem_of_getElem? (i := 351) (by decide +kernel), List.mem_of_getElem? (i := 1015) (by decide +kernel), List.mem_of_getElem? (i := 1016) (by decide +kernel)⟩
theorem lw_p26 : lw_okq (⟨"NettingHall$Feed", "addMessage", "(II)V"⟩, 6) := ⟨⟨by decide +kernel, by decide +kernel⟩, List.mem_of_getElem? (i := 343) (by decide +kernel), List.mem_of_getElem? (i := 1030) (by decide +kernel), List.mem_of_getElem? (i := 1031) (by decide +kernel)⟩
theorem lw_p27 : lw_okq (⟨"NettingHallModel", "hasFailed", "(I)Z"⟩, 56) := ⟨⟨by decide +kernel, by decide +kernel⟩, List.mem_of_getElem? (i := 1354) (by decide +kernel), List.mem_of_getElem? (i := 1548) (by decide +kernel), List.mem_of_getElem? (i := 1549) (by decide +kernel)⟩
theorem lw_p28 : lw_okq (⟨"NettingHallModel", "fails", "(I)Z"⟩, 56) := ⟨⟨by decide +kernel, by decide +kernel⟩, List.mem_of_getElem? (i := 1354) (by decide +kernel), List.mem_of_getElem? (i := 1552) (by decide +kernel), List.mem_of_getElem? (i := 1553) (by decide +kernel)⟩
theorem lw_p29 : lw_okq (⟨"NettingHallModel", "begins", "()V"⟩, 56) := ⟨⟨by decide +kernel, by decide +kernel⟩, List.mem_of_getElem? (i := 1354) (by decide +kernel), List.mem_of_getElem? (i := 1574) (by decide +kernel), List.mem_of_getElem? (i := 1575) (by decide +kernel)⟩
theorem lw_p30 : lw_okq (⟨"NettingHallModel", "offered", "(IIII)J"⟩, 56) := ⟨⟨by decide +kernel, by decide +kernel⟩, List.mem_of_getElem? (i := 1354) (by decide +kernel), List.mem_of_getElem? (i := 1578) (by decide +kernel), List.mem_of_getElem? (i := 1579) (by decide +kernel)⟩
theorem lw_p31 : lw_okq (⟨"NettingHallModel", "makes", "(IIIIIII)I"⟩, 56) := ⟨⟨by decide +kernel, by decide +kernel⟩, List.mem_of_getElem? (i := 1354) (by decide +kernel), List.mem_of_getElem? (i := 1585) (by decide +kernel), List.mem_of_getElem? (i := 1586) (by decide +kernel)⟩
def lw_privs_2 : List (MethodName × Nat) := [(⟨"NettingHall$Hall", "moveMoney", "(LNettingHall$Call;)J"⟩, 2), (⟨"NettingHall$Clearing", "payDividendTo", "(LNettingHall$Member;II)J"⟩, 11), (⟨"NettingHall$Hall", "wakeStops", "()V"⟩, 2), (⟨"NettingHall$Order", "tiedNumber", "()I"⟩, 13), (⟨"java/lang/Throwable", "fillInStackTrace", "(I)Ljava/lang/Throwable;"⟩, 6), (⟨"NettingHall", "done", "(LNettingHall$Call;J)J"⟩, 6), (⟨"NettingHall", "keep", "(LNettingHall$Call;)V"⟩, 6), (⟨"NettingHall$Levels", "placeOf", "(I)I"⟩, 3), (⟨"NettingHall$Levels", "closeGapAt", "(I)V"⟩, 3), (⟨"NettingHall$Levels", "makeGapAt", "(I)V"⟩, 3), (⟨"NettingHall$Feed", "addMessage", "(II)V"⟩, 6), (⟨"NettingHallModel", "hasFailed", "(I)Z"⟩, 56), (⟨"NettingHallModel", "fails", "(I)Z"⟩, 56), (⟨"NettingHallModel", "begins", "()V"⟩, 56), (⟨"NettingHallModel", "offered", "(IIII)J"⟩, 56), (⟨"NettingHallModel", "makes", "(IIIIIII)I"⟩, 56)]
theorem lw_r2 : ∀ q ∈ lw_privs_2, lw_okq q := List.forall_mem_cons.mpr ⟨lw_p16, List.forall_mem_cons.mpr ⟨lw_p17, List.forall_mem_cons.mpr ⟨lw_p18, List.forall_mem_cons.mpr ⟨lw_p19, List.forall_mem_cons.mpr ⟨lw_p20, List.forall_mem_cons.mpr ⟨lw_p21, List.forall_mem_cons.mpr ⟨lw_p22, List.forall_mem_cons.mpr ⟨lw_p23, List.forall_mem_cons.mpr ⟨lw_p24, List.forall_mem_cons.mpr ⟨lw_p25, List.forall_mem_cons.mpr ⟨lw_p26, List.forall_mem_cons.mpr ⟨lw_p27, List.forall_mem_cons.mpr ⟨lw_p28, List.forall_mem_cons.mpr ⟨lw_p29, List.forall_mem_cons.mpr ⟨lw_p30, List.forall_mem_cons.mpr ⟨lw_p31, fun _ h => absurd h List.not_mem_nil⟩⟩⟩⟩⟩⟩⟩⟩⟩⟩⟩⟩⟩⟩⟩⟩
theorem lw_p32 : lw_okq (⟨"NettingHallModel", "comes", "(I)V"⟩, 56) := ⟨⟨by decide +kernel, by decide +kernel⟩, List.mem_of_getElem? (i := 1354) (by decide +kernel), List.mem_of_getElem? (i := 1589) (by decide +kernel), List.mem_of_getElem? (i := 1590) (by decide +kernel)⟩
theorem lw_p33 : lw_okq (⟨"NettingHallModel", "first", "(II)I"⟩, 56) := ⟨⟨by decide +kernel, by decide +kernel⟩, List.mem_of_getElem? (i := 1354) (by decide +kernel), List.mem_of_getElem? (i := 1593) (by decide +kernel), List.mem_of_getElem? (i := 1594) (by decide +kernel)⟩
theorem lw_p34 : lw_okq (⟨"NettingHallModel", "isAhead", "(II)Z"⟩, 56) := ⟨⟨by decide +kernel, by decide +kernel⟩, List.mem_of_getElem? (i := 1354) (by decide +kernel), List.mem_of_getElem? (i := 1597) (by decide +kernel), List.mem_of_getElem? (i := 1598) (by decide +kernel)⟩
theorem lw_p35 : lw_okq (⟨"NettingHallModel", "goes", "(I)V"⟩, 56) := ⟨⟨by decide +kernel, by decide +kernel⟩, List.mem_of_getElem? (i := 1354) (by decide +kernel), List.mem_of_getElem? (i := 1601) (by decide +kernel), List.mem_of_getElem? (i := 1602) (by decide +kernel)⟩
theorem lw_p36 : lw_okq (⟨"NettingHallModel", "isBeyond", "(II)Z"⟩, 56) := ⟨⟨by decide +kernel, by decide +kernel⟩, List.mem_of_getElem? (i := 1354) (by decide +kernel), List.mem_of_getElem? (i := 1605) (by decide +kernel), List.mem_of_getElem? (i := 1606) (by decide +kernel)⟩
theorem lw_p37 : lw_okq (⟨"NettingHallModel", "trade", "(IIJIIZ)V"⟩, 56) := ⟨⟨by decide +kernel, by decide +kernel⟩, List.mem_of_getElem? (i := 1354) (by decide +kernel), List.mem_of_getElem? (i := 1612) (by decide +kernel), List.mem_of_getElem? (i := 1613) (by decide +kernel)⟩
theorem lw_p38 : lw_okq (⟨"NettingHallModel", "rate", "(I)I"⟩, 56) := ⟨⟨by decide +kernel, by decide +kernel⟩, List.mem_of_getElem? (i := 1354) (by decide +kernel), List.mem_of_getElem? (i := 1616) (by decide +kernel), List.mem_of_getElem? (i := 1617) (by decide +kernel)⟩
theorem lw_p39 : lw_okq (⟨"NettingHallModel", "carries", "(IJJ)V"⟩, 56) := ⟨⟨by decide +kernel, by decide +kernel⟩, List.mem_of_getElem? (i := 1354) (by decide +kernel), List.mem_of_getElem? (i := 1622) (by decide +kernel), List.mem_of_getElem? (i := 1623) (by decide +kernel)⟩
theorem lw_p40 : lw_okq (⟨"NettingHallModel", "tells", "(I)V"⟩, 56) := ⟨⟨by decide +kernel, by decide +kernel⟩, List.mem_of_getElem? (i := 1354) (by decide +kernel), List.mem_of_getElem? (i := 1626) (by decide +kernel), List.mem_of_getElem? (i := 1627) (by decide +kernel)⟩
theorem lw_p41 : lw_okq (⟨"NettingHallModel", "uses", "(IJ)V"⟩, 56) := ⟨⟨by decide +kernel, by decide +kernel⟩, List.mem_of_getElem? (i := 1354) (by decide +kernel), List.mem_of_getElem? (i := 1630) (by decide +kernel), List.mem_of_getElem? (i := 1631) (by decide +kernel)⟩
theorem lw_p42 : lw_okq (⟨"NettingHallModel", "stands", "(I)V"⟩, 56) := ⟨⟨by decide +kernel, by decide +kernel⟩, List.mem_of_getElem? (i := 1354) (by decide +kernel), List.mem_of_getElem? (i := 1634) (by decide +kernel), List.mem_of_getElem? (i := 1635) (by decide +kernel)⟩
theorem lw_p43 : lw_okq (⟨"NettingHallModel", "shows", "(I)V"⟩, 56) := ⟨⟨by decide +kernel, by decide +kernel⟩, List.mem_of_getElem? (i := 1354) (by decide +kernel), List.mem_of_getElem? (i := 1638) (by decide +kernel), List.mem_of_getElem? (i := 1639) (by decide +kernel)⟩
theorem lw_p44 : lw_okq (⟨"NettingHallModel", "ends", "()V"⟩, 56) := ⟨⟨by decide +kernel, by decide +kernel⟩, List.mem_of_getElem? (i := 1354) (by decide +kernel), List.mem_of_getElem? (i := 1642) (by decide +kernel), List.mem_of_getElem? (i := 1643) (by decide +kernel)⟩
theorem lw_p45 : lw_okq (⟨"NettingHallModel", "wakes", "()V"⟩, 56) := ⟨⟨by decide +kernel, by decide +kernel⟩, List.mem_of_getElem? (i := 1354) (by decide +kernel), List.mem_of_getElem? (i := 1646) (by decide +kernel), List.mem_of_getElem? (i := 1647) (by decide +kernel)⟩
theorem lw_p46 : lw_okq (⟨"NettingHallModel", "nextStop", "()I"⟩, 56) := ⟨⟨by decide +kernel, by decide +kernel⟩, List.mem_of_getElem? (i := 1354) (by decide +kernel), List.mem_of_getElem? (i := 1650) (by decide +kernel), List.mem_of_getElem? (i := 1651) (by decide +kernel)⟩
theorem lw_p47 : lw_okq (⟨"NettingHallModel", "feeds", "()V"⟩, 56) := ⟨⟨by decide +kernel, by decide +kernel⟩, List.mem_of_getElem? (i := 1354) (by decide +kernel), List.mem_of_getElem? (i := 1654) (by decide +kernel), List.mem_of_getElem? (i := 1655) (by decide +kernel)⟩
def lw_privs_3 : List (MethodName × Nat) := [(⟨"NettingHallModel", "comes", "(I)V"⟩, 56), (⟨"NettingHallModel", "first", "(II)I"⟩, 56), (⟨"NettingHallModel", "isAhead", "(II)Z"⟩, 56), (⟨"NettingHallModel", "goes", "(I)V"⟩, 56), (⟨"NettingHallModel", "isBeyond", "(II)Z"⟩, 56), (⟨"NettingHallModel", "trade", "(IIJIIZ)V"⟩, 56), (⟨"NettingHallModel", "rate", "(I)I"⟩, 56), (⟨"NettingHallModel", "carries", "(IJJ)V"⟩, 56), (⟨"NettingHallModel", "tells", "(I)V"⟩, 56), (⟨"NettingHallModel", "uses", "(IJ)V"⟩, 56), (⟨"NettingHallModel", "stands", "(I)V"⟩, 56), (⟨"NettingHallModel", "shows", "(I)V"⟩, 56), (⟨"NettingHallModel", "ends", "()V"⟩, 56), (⟨"NettingHallModel", "wakes", "()V"⟩, 56), (⟨"NettingHallModel", "nextStop", "()I"⟩, 56), (⟨"NettingHallModel", "feeds", "()V"⟩, 56)]
theorem lw_r3 : ∀ q ∈ lw_privs_3, lw_okq q := List.forall_mem_cons.mpr ⟨lw_p32, List.forall_mem_cons.mpr ⟨lw_p33, List.forall_mem_cons.mpr ⟨lw_p34, List.forall_mem_cons.mpr ⟨lw_p35, List.forall_mem_cons.mpr ⟨lw_p36, List.forall_mem_cons.mpr ⟨lw_p37, List.forall_mem_cons.mpr ⟨lw_p38, List.forall_mem_cons.mpr ⟨lw_p39, List.forall_mem_cons.mpr ⟨lw_p40, List.forall_mem_cons.mpr ⟨lw_p41, List.forall_mem_cons.mpr ⟨lw_p42, List.forall_mem_cons.mpr ⟨lw_p43, List.forall_mem_cons.mpr ⟨lw_p44, List.forall_mem_cons.mpr ⟨lw_p45, List.forall_mem_cons.mpr ⟨lw_p46, List.forall_mem_cons.mpr ⟨lw_p47, fun _ h => absurd h List.not_mem_nil⟩⟩⟩⟩⟩⟩⟩⟩⟩⟩⟩⟩⟩⟩⟩⟩
theorem lw_p48 : lw_okq (⟨"NettingHallModel", "isOrder", "(I)Z"⟩, 56) := ⟨⟨by decide +kernel, by decide +kernel⟩, List.mem_of_getElem? (i := 1354) (by decide +kernel), List.mem_of_getElem? (i := 1669) (by decide +kernel), List.mem_of_getElem? (i := 1670) (by decide +kernel)⟩
theorem lw_p49 : lw_okq (⟨"NettingHallModel", "hasDealt", "(I)Z"⟩, 56) := ⟨⟨by decide +kernel, by decide +kernel⟩, List.mem_of_getElem? (i := 1354) (by decide +kernel), List.mem_of_getElem? (i := 1677) (by decide +kernel), List.mem_of_getElem? (i := 1678) (by decide +kernel)⟩
theorem lw_p50 : lw_okq (⟨"NettingHallModel", "drops", "(I)V"⟩, 56) := ⟨⟨by decide +kernel, by decide +kernel⟩, List.mem_of_getElem? (i := 1354) (by decide +kernel), List.mem_of_getElem? (i := 1687) (by decide +kernel), List.mem_of_getElem? (i := 1688) (by decide +kernel)⟩
theorem lw_p51 : lw_okq (⟨"NettingHallModel", "found", "(I)I"⟩, 56) := ⟨⟨by decide +kernel, by decide +kernel⟩, List.mem_of_getElem? (i := 1354) (by decide +kernel), List.mem_of_getElem? (i := 1716) (by decide +kernel), List.mem_of_getElem? (i := 1717) (by decide +kernel)⟩
theorem lw_p52 : lw_okq (⟨"NettingHallModel", "sum", "(III)J"⟩, 56) := ⟨⟨by decide +kernel, by decide +kernel⟩, List.mem_of_getElem? (i := 1354) (by decide +kernel), List.mem_of_getElem? (i := 1720) (by decide +kernel), List.mem_of_getElem? (i := 1721) (by decide +kernel)⟩
theorem lw_p53 : lw_okq (⟨"NettingHallModel", "canTrade", "(II)Z"⟩, 56) := ⟨⟨by decide +kernel, by decide +kernel⟩, List.mem_of_getElem? (i := 1354) (by decide +kernel), List.mem_of_getElem? (i := 1731) (by decide +kernel), List.mem_of_getElem? (i := 1732) (by decide +kernel)⟩
theorem lw_p54 : lw_okq (⟨"NettingHallModel", "opens", "(IJ)V"⟩, 56) := ⟨⟨by decide +kernel, by decide +kernel⟩, List.mem_of_getElem? (i := 1354) (by decide +kernel), List.mem_of_getElem? (i := 1735) (by decide +kernel), List.mem_of_getElem? (i := 1736) (by decide +kernel)⟩
theorem lw_p55 : lw_okq (⟨"NettingHallModel", "isTrade", "(I)Z"⟩, 56) := ⟨⟨by decide +kernel, by decide +kernel⟩, List.mem_of_getElem? (i := 1354) (by decide +kernel), List.mem_of_getElem? (i := 1763) (by decide +kernel), List.mem_of_getElem? (i := 1764) (by decide +kernel)⟩
theorem lw_p56 : lw_okq (⟨"NettingHallModel", "marginOf", "(I)J"⟩, 56) := ⟨⟨by decide +kernel, by decide +kernel⟩, List.mem_of_getElem? (i := 1354) (by decide +kernel), List.mem_of_getElem? (i := 1792) (by decide +kernel), List.mem_of_getElem? (i := 1793) (by decide +kernel)⟩
theorem lw_p57 : lw_okq (⟨"NettingHallModel", "worthOf", "(I)J"⟩, 56) := ⟨⟨by decide +kernel, by decide +kernel⟩, List.mem_of_getElem? (i := 1354) (by decide +kernel), List.mem_of_getElem? (i := 1801) (by decide +kernel), List.mem_of_getElem? (i := 1802) (by decide +kernel)⟩
theorem lw_p58 : lw_okq (⟨"NettingHallModel", "looks", "()V"⟩, 56) := ⟨⟨by decide +kernel, by decide +kernel⟩, List.mem_of_getElem? (i := 1354) (by decide +kernel), List.mem_of_getElem? (i := 1813) (by decide +kernel), List.mem_of_getElem? (i := 1814) (by decide +kernel)⟩
theorem lw_p59 : lw_okq (⟨"NettingHallModel", "pending", "()I"⟩, 56) := ⟨⟨by decide +kernel, by decide +kernel⟩, List.mem_of_getElem? (i := 1354) (by decide +kernel), List.mem_of_getElem? (i := 1817) (by decide +kernel), List.mem_of_getElem? (i := 1818) (by decide +kernel)⟩
theorem lw_p60 : lw_okq (⟨"NettingHallModel", "fail", "(I)V"⟩, 56) := ⟨⟨by decide +kernel, by decide +kernel⟩, List.mem_of_getElem? (i := 1354) (by decide +kernel), List.mem_of_getElem? (i := 1821) (by decide +kernel), List.mem_of_getElem? (i := 1822) (by decide +kernel)⟩
theorem lw_p61 : lw_okq (⟨"NettingHallModel", "settlesIfClear", "()V"⟩, 56) := ⟨⟨by decide +kernel, by decide +kernel⟩, List.mem_of_getElem? (i := 1354) (by decide +kernel), List.mem_of_getElem? (i := 1825) (by decide +kernel), List.mem_of_getElem? (i := 1826) (by decide +kernel)⟩
theorem lw_p62 : lw_okq (⟨"NettingHallModel", "settles", "(I)J"⟩, 56) := ⟨⟨by decide +kernel, by decide +kernel⟩, List.mem_of_getElem? (i := 1354) (by decide +kernel), List.mem_of_getElem? (i := 1829) (by decide +kernel), List.mem_of_getElem? (i := 1830) (by decide +kernel)⟩
theorem lw_p63 : lw_okq (⟨"NettingHallModel", "takes", "(IJ)J"⟩, 56) := ⟨⟨by decide +kernel, by decide +kernel⟩, List.mem_of_getElem? (i := 1354) (by decide +kernel), List.mem_of_getElem? (i := 1833) (by decide +kernel), List.mem_of_getElem? (i := 1834) (by decide +kernel)⟩
def lw_privs_4 : List (MethodName × Nat) := [(⟨"NettingHallModel", "isOrder", "(I)Z"⟩, 56), (⟨"NettingHallModel", "hasDealt", "(I)Z"⟩, 56), (⟨"NettingHallModel", "drops", "(I)V"⟩, 56), (⟨"NettingHallModel", "found", "(I)I"⟩, 56), (⟨"NettingHallModel", "sum", "(III)J"⟩, 56), (⟨"NettingHallModel", "canTrade", "(II)Z"⟩, 56), (⟨"NettingHallModel", "opens", "(IJ)V"⟩, 56), (⟨"NettingHallModel", "isTrade", "(I)Z"⟩, 56), (⟨"NettingHallModel", "marginOf", "(I)J"⟩, 56), (⟨"NettingHallModel", "worthOf", "(I)J"⟩, 56), (⟨"NettingHallModel", "looks", "()V"⟩, 56), (⟨"NettingHallModel", "pending", "()I"⟩, 56), (⟨"NettingHallModel", "fail", "(I)V"⟩, 56), (⟨"NettingHallModel", "settlesIfClear", "()V"⟩, 56), (⟨"NettingHallModel", "settles", "(I)J"⟩, 56), (⟨"NettingHallModel", "takes", "(IJ)J"⟩, 56)]
theorem lw_r4 : ∀ q ∈ lw_privs_4, lw_okq q := List.forall_mem_cons.mpr ⟨lw_p48, List.forall_mem_cons.mpr ⟨lw_p49, List.forall_mem_cons.mpr ⟨lw_p50, List.forall_mem_cons.mpr ⟨lw_p51, List.forall_mem_cons.mpr ⟨lw_p52, List.forall_mem_cons.mpr ⟨lw_p53, List.forall_mem_cons.mpr ⟨lw_p54, List.forall_mem_cons.mpr ⟨lw_p55, List.forall_mem_cons.mpr ⟨lw_p56, List.forall_mem_cons.mpr ⟨lw_p57, List.forall_mem_cons.mpr ⟨lw_p58, List.forall_mem_cons.mpr ⟨lw_p59, List.forall_mem_cons.mpr ⟨lw_p60, List.forall_mem_cons.mpr ⟨lw_p61, List.forall_mem_cons.mpr ⟨lw_p62, List.forall_mem_cons.mpr ⟨lw_p63, fun _ h => absurd h List.not_mem_nil⟩⟩⟩⟩⟩⟩⟩⟩⟩⟩⟩⟩⟩⟩⟩⟩
theorem lw_p64 : lw_okq (⟨"NettingHallModel", "takesOthers", "(IJ)J"⟩, 56) := ⟨⟨by decide +kernel, by decide +kernel⟩, List.mem_of_getElem? (i := 1354) (by decide +kernel), List.mem_of_getElem? (i := 1837) (by decide +kernel), List.mem_of_getElem? (i := 1838) (by decide +kernel)⟩
def lw_privs_5 : List (MethodName × Nat) := [(⟨"NettingHallModel", "takesOthers", "(IJ)J"⟩, 56)]
theorem lw_r5 : ∀ q ∈ lw_privs_5, lw_okq q := List.forall_mem_cons.mpr ⟨lw_p64, fun _ h => absurd h List.not_mem_nil⟩
def lw_privs : List (MethodName × Nat) := lw_privs_1 ++ (lw_privs_2 ++ (lw_privs_3 ++ (lw_privs_4 ++ (lw_privs_5))))
def lw_tbl : List Cond := k2_sels lw_privs ++ tables_1
theorem lw_privs_ok : ∀ q ∈ lw_privs, lw_okq q := by
  show ∀ q ∈ lw_privs_1 ++ (lw_privs_2 ++ (lw_privs_3 ++ (lw_privs_4 ++ (lw_privs_5)))), lw_okq q
  exact List.forall_mem_append.mpr ⟨lw_r1, List.forall_mem_append.mpr ⟨lw_r2, List.forall_mem_append.mpr ⟨lw_r3, List.forall_mem_append.mpr ⟨lw_r4, lw_r5⟩⟩⟩⟩
end
section
/-! ===== BEGIN words of one list among another's, by their places ===== -/
theorem goodIn_r {big : List Cond} (ws : List Cond) (ps : List Nat) (hp : ws = ps.filterMap (fun i => big[i]?)) (h : ws.all goodWord = true) : GoodIn big ws := by
  intro w hw
  have h1 := List.all_eq_true.mp h w hw
  rw [hp] at hw
  obtain ⟨i, -, hi⟩ := List.mem_filterMap.mp hw
  have hm : w ∈ big := by first | exact List.mem_of_getElem? hi | exact List.getElem?_mem hi
  exact ⟨hm, good_of_word h1⟩
theorem goodIn_app {big a b : List Cond} (ha : GoodIn big a) (hb : GoodIn big b) : GoodIn big (a ++ b) := fun w h => (List.mem_append.mp h).elim (ha w) (hb w)
theorem goodIn_ca {big a b : List Cond} {c : Cond} (ha : GoodIn big (c :: a)) (hb : GoodIn big b) : GoodIn big (c :: (a ++ b)) := fun w h => (List.mem_cons.mp h).elim (fun e => ha w (List.mem_cons.mpr (Or.inl e))) (fun h => (List.mem_append.mp h).elim (fun h => ha w (List.mem_cons.mpr (Or.inr h))) (hb w))
theorem goodIn_sub {big ws : List Cond} (hm : ∀ w ∈ ws, w ∈ big) (h : ws.all goodWord = true) : GoodIn big ws := fun w hw => ⟨hm w hw, good_of_word (List.all_eq_true.mp h w hw)⟩
/-! ===== END ===== -/
/-! ===== BEGIN exceptions that leave a method, and their catching by the caller (launches without stack traces) ===== -/
section VXA
/-! The laws vx_back, vx_callV, vx_callS, vx_callSW, vx_throw0, vx_throwS follow proofs of the library, with one case more: JvmDerived/Free/Laws.lean (Back.of_free), Shelf42/LK1.lean (callV, callS), Shelf/KitTraced.lean (throwNew0V, throwNewS). -/
/-- where a method has thrown q: the class by its name, the cell, what was written, the world -/
def vx_T (XC : String → State → State → Prop) (st : State) (q : Addr) (t : State) (mc ms : Nat) (free : Addr → Prop) : Prop :=
  ∃ (E : String) (ce : Cell) (L : List Loc), XC E st t ∧ t.heap[q]? = some ce ∧ ce.vm = .none ∧ st.vm.findClass E = some ce.cls ∧ st.WarmedH t.vm ∧ st.sameButNew ({ t with vm := st.vm } : State) L mc ms ∧ ∀ z ∈ L, free z.base
def vx_Q (Qc : Array Value → State → Outcome → State → Prop) (XC : String → State → State → Prop) (mc ms : Nat) (free : Addr → Prop) : Array Value → State → Outcome → State → Prop := fun a st o t =>
  (Qc a st o t ∧ ∃ L, FrameEnd st o t L mc ms ∧ ∀ q ∈ L, free q.base) ∨ ∃ q, o = .threw q ∧ vx_T XC st q t mc ms free
/-- a callee that returns or throws -/
def vx_Met (l : Launch) (y : MethodName) (ws : List Cond) (rm : Room) (Pc : Array Value → State → Prop) (Qc : Array Value → State → Outcome → State → Prop) (XC : String → State → State → Prop) (mc ms : Nat) (free : Addr → Prop) : Prop :=
  MetFree l y (headSpec ws rm) Pc (fun _ _ _ _ _ => True) (vx_Q Qc XC mc ms free)
def vx_Post (XC : String → State → State → Prop) (mc ms : Nat) (free : Addr → Prop) : Pt → Array Value → Addr → Pt → Prop := fun A a q B =>
  ∃ (g : JFrame) (mk : MethodId) (t : State) (L : List Loc) (E : String) (ce : Cell), B.U.heap = t.heap ∧ B.U.vm = t.vm ∧ XC E (A.U.calling g mk a) t ∧ t.heap[q]? = some ce ∧ ce.vm = .none ∧ A.U.vm.findClass E = some ce.cls ∧ B.locs = A.locs ++ L ∧ (∀ z ∈ L, free z.base) ∧ B.cells = A.cells + mc ∧ B.slots = A.slots + ms
def vx_Back (l : Launch) (R : Room) (p : Program) (e : Env) (below : List Frame) (s : State) (sargs : Array Value) (y : MethodName) (len W9 : Nat)
    (Pre : Pt → Array Value → Prop) (Post : Pt → Array Value → Option Value → Pt → Prop) (PostX : Pt → Array Value → Addr → Pt → Prop) : Prop :=
  ∀ (m : MethodId) (meth : Method) (c : Code) (A : Pt) (g : JFrame) (ig : Instr) (mk : MethodId) (a : Array Value),
    Stand p l e R s m sargs below meth c A.U A.locs A.cells A.slots → g.method = m → g.locals.size = c.maxLocals → decode c.code g.pc = .ok (ig, len) →
    2 * g.monitorRoom + (g.stack.map fun v => v.category).sum ≤ W9 → A.U.methodNamed? y = some mk → Pre A a →
    (∃ (v : Option Value) (B : Pt), Stand p l e R s m sargs below meth c B.U B.locs B.cells B.slots ∧ Post A a v B ∧
      Steps p.tables e below (doInvoke e (A.U.setTop g) [] mk a).1 (B.U.setTop { g with pc := g.pc + len, stack := v.toList ++ g.stack })) ∨
    (∃ (q : Addr) (B : Pt), Stand p l e R s m sargs below meth c B.U B.locs B.cells B.slots ∧ PostX A a q B ∧
      Steps p.tables e below (doInvoke e (A.U.setTop g) [] mk a).1 ((B.U.setTop g).pushFrame (.throwing q)))
section Payer
variable {l : Launch} {R : Room} {p : Program} {e : Env} {below : List Frame} {s : State} {sargs : Array Value} {y : MethodName} {len W9 : Nat}
theorem vx_back {ws : List Cond} {rm : Room} {Pc : Array Value → State → Prop} {Qc : Array Value → State → Outcome → State → Prop} {XC : String → State → State → Prop} {mc ms : Nat} {free : Addr → Prop} {bytes : ByteArray} {maxL : Nat} {ret : Option FieldType}
    (hM : vx_Met l y ws rm Pc Qc XC mc ms free) (hblind : FrameBlind Pc) (hrc : rm.cells = mc) (hrs : rm.slots = ms)
    (hframes : rm.frames + 1 ≤ R.frames) (hlocals : W9 + (maxL + 11) + rm.locals ≤ R.locals)
    (hws : ∀ w ∈ ws, ∀ a' U, s.WarmedH U.vm → w.before a' U = true) (hcode : Cond.code y bytes maxL ret ∈ ws) (hinit : ∀ a' U, s.WarmedH U.vm → (Cond.initialized y.cls).before a' U = true) :
    vx_Back l R p e below s sargs y len W9 (PreOf R mc ms Pc) (PostOf Qc mc ms free) (vx_Post XC mc ms free) := by
  intro m meth c A g ig mk a X hg hsize hdg hW hn hp
  have h1 : (headSpec ws rm).pre.before a A.U = true := atoms_intro fun w hw => hws w hw _ _ X.warmed
  have h2 : (Cond.code y bytes maxL ret).before a A.U = true := hws _ hcode _ _ X.warmed
  have h3 : (Cond.initialized y.cls).before a A.U = true := hinit _ _ X.warmed
  have h4 : A.cells + (headSpec ws rm).room.cells ≤ R.cells := by rw [show (headSpec ws rm).room.cells = mc from hrc]; exact hp.1
  have h5 : A.slots + (headSpec ws rm).room.slots ≤ R.slots := by rw [show (headSpec ws rm).room.slots = ms from hrs]; exact hp.2.1
  have hPc : Pc a (A.U.calling g mk a) := hblind _ _ _ _ hp.2.2
  obtain ⟨U, Ls, c0, s0⟩ := A
  dsimp only [Pt.U, Pt.locs, Pt.cells, Pt.slots] at h1 h2 h3 h4 h5 X hn hPc ⊢
  obtain ⟨methY, cY, hmY, hcY, -, hlY, -, -, -, -⟩ := Cond.code_spec hn h2
  obtain ⟨kY, hkY, -⟩ := className_of_methodNamed hn
  have hinitY : kY.init = .initialized := Cond.initialized_spec (findClass_of_methodNamed hn) hkY h3
  have h : At U g.method c below := by rw [hg]; exact X.here
  have hlocals9 : W9 + (maxL + 11) + (headSpec ws rm).room.locals ≤ R.locals := hlocals
  have happ : (headSpec ws rm).appliesLoose y e.platform (U.calling g mk a) = true :=
    Spec.appliesLoose_calling (g := g) h hdg hn hkY hinitY
      (X.room_calling (g := g) (R' := (headSpec ws rm).room) hsize hmY hcY hframes (by rw [hlY]; omega) h4 h5) h1
  obtain ⟨mid, hmid⟩ := h.above
  have hfr : (U.setTop g).frames = (.java g :: mid) ++ below := by rw [State.frames_setTop' g h.top, hmid]; rfl
  obtain ⟨o, s₂, hsteps, -, hend, hq⟩ := Steps.callFree hM p X.admits X.cas X.clock (acts := []) hfr happ hPc trivial
  have hq' : vx_Q Qc XC mc ms free a (U.calling g mk a) o s₂ := hq
  rw [State.frames_setTop' g h.top] at hend
  obtain ⟨g₀, hg0⟩ := Option.isSome_iff_exists.mp h.top
  obtain ⟨r, hr⟩ := State.topJava?_eq_some.mp hg0
  have hr' : (({ U with heap := s₂.heap, slotsUsed := s₂.slotsUsed } : State).setVm s₂.vm).frames = .java g₀ :: r := hr
  rcases hq' with ⟨hqc, L, hfe, hL⟩ | ⟨q, rfl, E, ce, L, hx, hce, hcv, hcl, hW₂, hsm, hL⟩
  · obtain ⟨⟨v, rfl⟩, hW₂, e2, q2, q3, q4, q5, q6⟩ := id hfe
    have e3 : s₂ = ({ (U.calling g mk a).setFrames s₂.frames with heap := s₂.heap, slotsUsed := s₂.slotsUsed } : State).setVm s₂.vm := by
      have : s₂ = ({ s₂ with vm := (U.calling g mk a).vm } : State).setVm s₂.vm := rfl
      rw [e2] at this
      exact this
    obtain ⟨c₂, i₂, len₂, hc₂, hd₂, hf₂⟩ := hend
    have hW' : U.WarmedH s₂.vm := hW₂
    have hcc : c₂ = c := by
      have h1 : s₂.code? g.method = U.code? g.method := by
        rw [State.code?_eq, State.code?_eq, hW'.alike.method?]
      exact Option.some.inj (hc₂.symm.trans (h1.trans h.code))
    subst hcc
    have hlen : len₂ = len := by rw [hdg] at hd₂; cases hd₂; rfl
    subst hlen
    have hs₂ : s₂ = (({ U with heap := s₂.heap, slotsUsed := s₂.slotsUsed } : State).setVm s₂.vm).setTop { g with pc := g.pc + len₂, stack := v.toList ++ g.stack } := by
      refine e3.trans ?_
      rw [hf₂, State.calling_eq h.top, State.setFrames_setFrames, State.setTop_of_frames _ hr', hr]
      rfl
    have hsame : U.sameButNew ({ U with heap := s₂.heap, slotsUsed := s₂.slotsUsed } : State) L mc ms := by
      refine ⟨?_, q2, q3, q4, q5, q6⟩
      obtain ⟨t, ht, -⟩ := State.frames_cons hr
      show ({ U with heap := s₂.heap, slotsUsed := s₂.slotsUsed } : State) = { U.setFrames U.frames with heap := s₂.heap, slotsUsed := s₂.slotsUsed }
      rw [State.setFrames_self ht]
    subst hg
    refine Or.inl ⟨v, ⟨(({ U with heap := s₂.heap, slotsUsed := s₂.slotsUsed } : State).setVm s₂.vm), Ls ++ L, c0 + mc, s0 + ms⟩,
      ⟨X.admits, X.cas, X.clock, X.frames, X.room, X.hears, X.method, X.code, (X.here.setHeapUsed s₂.heap s₂.slotsUsed).setVm hW'.alike, X.tail, State.WarmedH.trans X.warmed hW', X.limits, X.bytes, X.same.trans (hsame.setVm s.vm)⟩,
      ⟨g, mk, s₂, L, rfl, rfl, hqc, rfl, hL, rfl, rfl⟩, ?_⟩
    show Steps p.tables e below _ ((({ U with heap := s₂.heap, slotsUsed := s₂.slotsUsed } : State).setVm s₂.vm).setTop { g with pc := g.pc + len₂, stack := v.toList ++ g.stack })
    rw [← hs₂]
    exact hsteps
  · obtain ⟨e2, q2, q3, q4, q5, q6⟩ := id hsm
    have e3 : s₂ = ({ (U.calling g mk a).setFrames s₂.frames with heap := s₂.heap, slotsUsed := s₂.slotsUsed } : State).setVm s₂.vm := by
      have : s₂ = ({ s₂ with vm := (U.calling g mk a).vm } : State).setVm s₂.vm := rfl
      rw [e2] at this
      exact this
    have hf₂ : s₂.frames = .throwing q :: .java g :: U.frames.tail := hend
    have hW' : U.WarmedH s₂.vm := hW₂
    have hs₂ : s₂ = ((({ U with heap := s₂.heap, slotsUsed := s₂.slotsUsed } : State).setVm s₂.vm).setTop g).pushFrame (.throwing q) := by
      refine e3.trans ?_
      rw [hf₂, State.calling_eq h.top, State.setFrames_setFrames, State.pushFrame, State.frames_setTop _ hr', State.setTop_of_frames _ hr', State.setFrames_setFrames, hr]
      rfl
    have hsame : U.sameButNew ({ U with heap := s₂.heap, slotsUsed := s₂.slotsUsed } : State) L mc ms := by
      refine ⟨?_, q2, q3, q4, q5, q6⟩
      obtain ⟨t, ht, -⟩ := State.frames_cons hr
      show ({ U with heap := s₂.heap, slotsUsed := s₂.slotsUsed } : State) = { U.setFrames U.frames with heap := s₂.heap, slotsUsed := s₂.slotsUsed }
      rw [State.setFrames_self ht]
    subst hg
    refine Or.inr ⟨q, ⟨(({ U with heap := s₂.heap, slotsUsed := s₂.slotsUsed } : State).setVm s₂.vm), Ls ++ L, c0 + mc, s0 + ms⟩,
      ⟨X.admits, X.cas, X.clock, X.frames, X.room, X.hears, X.method, X.code, (X.here.setHeapUsed s₂.heap s₂.slotsUsed).setVm hW'.alike, X.tail, State.WarmedH.trans X.warmed hW', X.limits, X.bytes, X.same.trans (hsame.setVm s.vm)⟩,
      ⟨g, mk, s₂, L, E, ce, rfl, rfl, hx, hce, hcv, hcl, rfl, hL, rfl, rfl⟩, ?_⟩
    show Steps p.tables e below _ (((({ U with heap := s₂.heap, slotsUsed := s₂.slotsUsed } : State).setVm s₂.vm).setTop g).pushFrame (.throwing q))
    rw [← hs₂]
    exact hsteps
end Payer
section Calls
variable {p : Program} {l : Launch} {e : Env} {R : Room} {s : State} {m : MethodId} {args : Array Value} {below : List Frame} {meth : Method} {c : Code} {T : State} {locs : List Loc} {cells slots : Nat}
theorem vx_callV (X : Stand p l e R s m args below meth c T locs cells slots) (hexec : p.tables.exec = Jvm.exec) {own C : String} {index : Nat} {y : MethodName} {bytes : ByteArray} {maxL : Nat} {ret : Option FieldType}
    (hown : s.vm.findClass own = some m.cls) (hlink : (Cond.methodLink own index y).before args s = true) (hinst : (Cond.instanceMethod y).before args s = true) (hsel : (Cond.selects C y y).before args s = true)
    (hcode : (Cond.code y bytes maxL ret).before args s = true) (hy : y.cls ≠ "java/lang/invoke/MethodHandle" ∧ y.cls ≠ "java/lang/invoke/VarHandle")
    {W9 : Nat} {Pre : Pt → Array Value → Prop} {Post : Pt → Array Value → Option Value → Pt → Prop} {PostX : Pt → Array Value → Addr → Pt → Prop} (hK : vx_Back l R p e below s args y 3 W9 Pre Post PostX)
    {b : Addr} {cellB : Cell} (hcell : T.heap[b]? = some cellB) (hobj : cellB.vm.isStatics = false) (hcls : s.vm.findClass C = some cellB.cls)
    {g : JFrame} (hg : g.method = m) (hsize : g.locals.size = c.maxLocals) {argsL rest : List Value} (hlen : ∀ sig, parseMethodDescriptor y.desc = some sig → argsL.length = sig.parameters.length)
    (hstack : g.stack = argsL.reverse ++ .ref b :: rest) (hW : 2 * g.monitorRoom + (rest.map fun v => v.category).sum ≤ W9) (hdg : decode c.code g.pc = .ok (.invokevirtual index, 3))
    (hpre : ∀ vm₁, s.WarmedH vm₁ → Pre ⟨T.setVm vm₁, locs, cells, slots⟩ (Value.ref b :: argsL).toArray) :
    (∃ (v : Option Value) (vm₁ : Vm) (B : Pt), s.WarmedH vm₁ ∧ Stand p l e R s m args below meth c B.U B.locs B.cells B.slots ∧ Post ⟨T.setVm vm₁, locs, cells, slots⟩ (Value.ref b :: argsL).toArray v B ∧
      ∀ target, Steps p.tables e below (B.U.setTop { g with pc := g.pc + 3, stack := v.toList ++ rest }) target → Steps p.tables e below (T.setTop g) target) ∨
    (∃ (q : Addr) (vm₁ : Vm) (B : Pt), s.WarmedH vm₁ ∧ Stand p l e R s m args below meth c B.U B.locs B.cells B.slots ∧ PostX ⟨T.setVm vm₁, locs, cells, slots⟩ (Value.ref b :: argsL).toArray q B ∧
      Steps p.tables e below (T.setTop g) ((B.U.setTop { g with stack := rest }).pushFrame (.throwing q))) := by
  obtain ⟨mk, methM, hnamed, hmethM, hstM, habM⟩ := Cond.instanceMethod_spec hinst
  obtain ⟨methM', cM, hmethM', -, -, -, -, -, -, hsigM⟩ := Cond.code_spec hnamed hcode
  cases hmethM.symm.trans hmethM'
  obtain ⟨c2, r2, m2, q1, q2, q3, q4, kP, hkP, hkPi⟩ := Cond.selects_spec hsel
  cases hcls.symm.trans q1
  cases (State.methodFound?_of_named hnamed hy).symm.trans q2
  cases hnamed.symm.trans q3
  have hselP : selectMethod e.platform s.vm cellB.cls mk = .method mk := by rw [Launch.admits_selectMethod X.admits]; exact q4
  obtain ⟨vm₁, X₁, hstep₁⟩ := X.invokevirtual hexec hown hlink hnamed hmethM hstM hkP hkPi hy (a := b) (cell := cellB) hcell
    (fun z h => by rw [h] at hobj; cases hobj) hselP hmethM habM hkP hkPi (g := g) hg (argsL := argsL) (rest := rest) (hlen _ hsigM) hstack hdg
  rcases hK m meth c ⟨T.setVm vm₁, locs, cells, slots⟩ { g with stack := rest } (.invokevirtual index) mk (Value.ref b :: argsL).toArray X₁ hg hsize hdg hW (X₁.named hnamed) (hpre vm₁ X₁.warmed) with ⟨v, B, X', hpost, hsteps⟩ | ⟨q, B, X', hpost, hsteps⟩
  · exact Or.inl ⟨v, vm₁, B, X₁.warmed, X', hpost, fun target h => hstep₁ _ fun acts => by rw [doInvoke_state]; exact hsteps.trans h⟩
  · exact Or.inr ⟨q, vm₁, B, X₁.warmed, X', hpost, hstep₁ _ fun acts => by rw [doInvoke_state]; exact hsteps⟩
theorem vx_callS (X : Stand p l e R s m args below meth c T locs cells slots) (hexec : p.tables.exec = Jvm.exec) {own : String} {index : Nat} {y : MethodName} {bytes : ByteArray} {maxL : Nat} {ret : Option FieldType}
    (hown : s.vm.findClass own = some m.cls) (hlink : (Cond.methodLink own index y).before args s = true) (hstat : (Cond.static y).before args s = true) (hinit : (Cond.initialized y.cls).before args s = true)
    (hcode : (Cond.code y bytes maxL ret).before args s = true) (hy : y.cls ≠ "java/lang/invoke/MethodHandle" ∧ y.cls ≠ "java/lang/invoke/VarHandle")
    {W9 : Nat} {Pre : Pt → Array Value → Prop} {Post : Pt → Array Value → Option Value → Pt → Prop} {PostX : Pt → Array Value → Addr → Pt → Prop} (hK : vx_Back l R p e below s args y 3 W9 Pre Post PostX)
    {g : JFrame} (hg : g.method = m) (hsize : g.locals.size = c.maxLocals) {argsL rest : List Value} (hlen : ∀ sig, parseMethodDescriptor y.desc = some sig → argsL.length = sig.parameters.length)
    (hstack : g.stack = argsL.reverse ++ rest) (hW : 2 * g.monitorRoom + (rest.map fun v => v.category).sum ≤ W9) (hdg : decode c.code g.pc = .ok (.invokestatic index, 3))
    (hpre : ∀ vm₁, s.WarmedH vm₁ → Pre ⟨T.setVm vm₁, locs, cells, slots⟩ argsL.toArray) :
    (∃ (v : Option Value) (vm₁ : Vm) (B : Pt), s.WarmedH vm₁ ∧ Stand p l e R s m args below meth c B.U B.locs B.cells B.slots ∧ Post ⟨T.setVm vm₁, locs, cells, slots⟩ argsL.toArray v B ∧
      ∀ target, Steps p.tables e below (B.U.setTop { g with pc := g.pc + 3, stack := v.toList ++ rest }) target → Steps p.tables e below (T.setTop g) target) ∨
    (∃ (q : Addr) (vm₁ : Vm) (B : Pt), s.WarmedH vm₁ ∧ Stand p l e R s m args below meth c B.U B.locs B.cells B.slots ∧ PostX ⟨T.setVm vm₁, locs, cells, slots⟩ argsL.toArray q B ∧
      Steps p.tables e below (T.setTop g) ((B.U.setTop { g with stack := rest }).pushFrame (.throwing q))) := by
  obtain ⟨mk, hnamed⟩ := Cond.code_named hcode
  obtain ⟨methM, cM, hmethM, -, -, -, -, -, -, hsigM⟩ := Cond.code_spec hnamed hcode
  have hstatic : methM.isStatic = true := Cond.static_spec hnamed hmethM hstat
  obtain ⟨kP, hkP, -⟩ := className_of_methodNamed hnamed
  have hinitP : kP.init = .initialized := Cond.initialized_spec (findClass_of_methodNamed hnamed) hkP hinit
  obtain ⟨vm₁, X₁, hstep₁⟩ := X.invokestatic hexec hown hlink hnamed hmethM hstatic hkP hinitP hy (g := g) hg (argsL := argsL) (rest := rest) (hlen _ hsigM) hstack hdg
  rcases hK m meth c ⟨T.setVm vm₁, locs, cells, slots⟩ { g with stack := rest } (.invokestatic index) mk argsL.toArray X₁ hg hsize hdg hW (X₁.named hnamed) (hpre vm₁ X₁.warmed) with ⟨v, B, X', hpost, hsteps⟩ | ⟨q, B, X', hpost, hsteps⟩
  · exact Or.inl ⟨v, vm₁, B, X₁.warmed, X', hpost, fun target h => hstep₁ _ fun acts => by rw [doInvoke_state]; exact hsteps.trans h⟩
  · exact Or.inr ⟨q, vm₁, B, X₁.warmed, X', hpost, hstep₁ _ fun acts => by rw [doInvoke_state]; exact hsteps⟩
end Calls
theorem vx_cls {s : State} {T : State} {vm₁ : Vm} {E : String} {k : ClassId} (hW : s.WarmedH vm₁) (h : (T.setVm vm₁).vm.findClass E = some k) : s.vm.findClass E = some k := by
  have h1 : vm₁.findClass E = some k := h
  rw [hW.alike.findClass] at h1
  exact h1
/-- the method's frame g, with q thrown over it -/
def vx_W (p : Program) (l : Launch) (e : Env) (R : Room) (s : State) (m : MethodId) (args : Array Value) (below : List Frame) (meth : Method) (c : Code) (H : Heap) (locs : List Loc) (cells slots : Nat) (Q : State → Prop) (g : JFrame) (q : Addr) : Prop :=
  ∀ T : State, T.heap = H → Stand p l e R s m args below meth c T locs cells slots → ∃ t, Steps p.tables e below ((T.setTop g).pushFrame (.throwing q)) t ∧ Q t
def vx_Run (p : Program) (l : Launch) (e : Env) (R : Room) (s : State) (m : MethodId) (args : Array Value) (below : List Frame) (meth : Method) (c : Code) (H : Heap) (locs : List Loc) (cells slots mc ms : Nat) (g : JFrame) (rest : List Value) (Qa : State → Outcome → State → Prop) (XC : String → State → State → Prop) (free : Addr → Prop) : Prop :=
  ∀ T : State, T.heap = H → Stand p l e R s m args below meth c T locs cells slots →
    (∃ (v : Option Value) (st₀ t T' : State) (L : List Loc), st₀.heap = H ∧ Stand p l e R s m args below meth c T' (locs ++ L) (cells + mc) (slots + ms) ∧ (∀ q ∈ L, free q.base) ∧ T'.heap = t.heap ∧ T'.vm = t.vm ∧ Qa st₀ (.returned v) t ∧
      Goes p e below T g T' { g with pc := g.pc + 3, stack := v.toList ++ rest }) ∨
    (∃ (q : Addr) (st₀ t T' : State) (L : List Loc) (E : String) (ce : Cell), st₀.heap = H ∧ Stand p l e R s m args below meth c T' (locs ++ L) (cells + mc) (slots + ms) ∧ (∀ z ∈ L, free z.base) ∧ T'.heap = t.heap ∧ T'.vm = t.vm ∧ XC E st₀ t ∧ t.heap[q]? = some ce ∧ ce.vm = .none ∧ s.vm.findClass E = some ce.cls ∧
      Steps p.tables e below (T.setTop g) ((T'.setTop { g with stack := rest }).pushFrame (.throwing q)))
def vx_X {S : Type} (px : S → Prop) (B : String → S → State → Prop) (A : Nat → Prop) : String → State → State → Prop := fun E st t => ∃ u : S, px u ∧ B E u t ∧ va_F A st t
section Runs
variable {p : Program} {l : Launch} {e : Env} {R : Room} {s : State} {m : MethodId} {args : Array Value} {below : List Frame} {meth : Method} {c : Code} {H : Heap} {locs : List Loc} {cells slots : Nat}
variable {y : MethodName} {bytes cc : ByteArray} {maxL nL mc ms n index : Nat} {ret : Option FieldType} {ws : List Cond} {rm : Room} {Pc : Array Value → State → Prop} {Qc : Array Value → State → Outcome → State → Prop} {XC : String → State → State → Prop} {free : Addr → Prop} {Ts : List Cond} {own C : String} {b : Addr} {As rest : List Value} {g : JFrame}
theorem vx_callBack (cb : CallB R s args own index y bytes maxL ret ws rm mc ms n) (hM : vx_Met l y ws rm Pc Qc XC mc ms free) (hbl : FrameBlind Pc) : vx_Back l R p e below s args y 3 8 (PreOf R mc ms Pc) (PostOf Qc mc ms free) (vx_Post XC mc ms free) := by
  obtain ⟨hrc, hrs, hfr, hlo, hws, hcw, -, hini, -⟩ := cb
  exact vx_back (bytes := bytes) (maxL := maxL) (ret := ret) hM hbl hrc hrs hfr hlo hws hcw (fun a' U hW => word_at hW (Or.inl (by first | rfl | simp [Cond.onTables, Cond.keeps, Cond.steady])) hini)
theorem vx_runV (S : CallFix p m c cc nL s args Ts own) (hM : vx_Met l y ws rm Pc Qc XC mc ms free) (cw : CallW R s args own C index y bytes maxL ret ws rm mc ms n) (hp : PreV s H C b Pc As)
    (hg : g.method = m) (hn : As.length = n) (hsize : g.locals.size = nL) (hstack : g.stack = As.reverse ++ .ref b :: rest) (hW : 2 * g.monitorRoom + (rest.map fun v => v.category).sum ≤ 8) (hdg : decode cc g.pc = .ok (.invokevirtual index, 3)) (hf : cells + mc ≤ R.cells ∧ slots + ms ≤ R.slots) :
    vx_Run p l e R s m args below meth c H locs cells slots mc ms g rest (Qc (Value.ref b :: As).toArray) XC free := by
  have hK : vx_Back l R p e below s args y 3 8 (PreOf R mc ms Pc) (PostOf Qc mc ms free) (vx_Post XC mc ms free) := vx_callBack cw.1 hM hp.1
  obtain ⟨⟨-, -, -, -, -, -, hcode, -, hy, hlen, hl⟩, hin, hse⟩ := cw
  obtain ⟨hx, hb, hml, ho, -⟩ := S
  obtain ⟨-, ⟨cellB, hcB, hoB, hclB⟩, hPc⟩ := hp
  intro T hT X
  rcases vx_callV X hx (C := C) (bytes := bytes) (maxL := maxL) (ret := ret) ho hl hin hse hcode hy hK (by rw [hT]; exact hcB) hoB hclB hg (hsize.trans hml.symm) (argsL := As) (rest := rest) (fun sig h => hn.trans (hlen sig h)) hstack hW (by rw [hb]; exact hdg)
    (fun vm₁ hW₁ => ⟨hf.1, hf.2, hPc (T.setVm vm₁) hT hW₁⟩) with ⟨v, vm₁, ⟨U', l2, c2, s2⟩, hW₁, X', ⟨g', mk, t, L, e1, e2, hq, h1, hL, h2, h3⟩, st⟩ | ⟨q, vm₁, ⟨U', l2, c2, s2⟩, hW₁, X', ⟨g', mk, t, L, E, ce, e1, e2, hq, hce, hcv, hcl, h1, hL, h2, h3⟩, st⟩
  · dsimp only [Pt.U, Pt.locs, Pt.cells, Pt.slots] at X' e1 e2 h1 h2 h3 st
    subst h1; subst h2; subst h3
    exact Or.inl ⟨v, (T.setVm vm₁).calling g' mk (Value.ref b :: As).toArray, t, U', L, hT, X', hL, e1, e2, hq, st⟩
  · dsimp only [Pt.U, Pt.locs, Pt.cells, Pt.slots] at X' e1 e2 h1 h2 h3 st hcl
    subst h1; subst h2; subst h3
    exact Or.inr ⟨q, (T.setVm vm₁).calling g' mk (Value.ref b :: As).toArray, t, U', L, E, ce, hT, X', hL, e1, e2, hq, hce, hcv, vx_cls hW₁ hcl, st⟩
theorem vx_runS (S : CallFix p m c cc nL s args Ts own) (hM : vx_Met l y ws rm Pc Qc XC mc ms free) (cw : CallB R s args own index y bytes maxL ret ws rm mc ms n ∧ (Cond.static y).before args s = true) (hp : PreS s H Pc As)
    (hg : g.method = m) (hn : As.length = n) (hsize : g.locals.size = nL) (hstack : g.stack = As.reverse ++ rest) (hW : 2 * g.monitorRoom + (rest.map fun v => v.category).sum ≤ 8) (hdg : decode cc g.pc = .ok (.invokestatic index, 3)) (hf : cells + mc ≤ R.cells ∧ slots + ms ≤ R.slots) :
    vx_Run p l e R s m args below meth c H locs cells slots mc ms g rest (Qc As.toArray) XC free := by
  have hK : vx_Back l R p e below s args y 3 8 (PreOf R mc ms Pc) (PostOf Qc mc ms free) (vx_Post XC mc ms free) := vx_callBack cw.1 hM hp.1
  obtain ⟨⟨-, -, -, -, -, -, hcode, hini, hy, hlen, hl⟩, hstt⟩ := cw
  obtain ⟨hx, hb, hml, ho, -⟩ := S
  intro T hT X
  rcases vx_callS X hx (bytes := bytes) (maxL := maxL) (ret := ret) ho hl hstt hini hcode hy hK hg (hsize.trans hml.symm) (argsL := As) (rest := rest) (fun sig h => hn.trans (hlen sig h)) hstack hW (by rw [hb]; exact hdg)
    (fun vm₁ hW₁ => ⟨hf.1, hf.2, hp.2 (T.setVm vm₁) hT hW₁⟩) with ⟨v, vm₁, ⟨U', l2, c2, s2⟩, hW₁, X', ⟨g', mk, t, L, e1, e2, hq, h1, hL, h2, h3⟩, st⟩ | ⟨q, vm₁, ⟨U', l2, c2, s2⟩, hW₁, X', ⟨g', mk, t, L, E, ce, e1, e2, hq, hce, hcv, hcl, h1, hL, h2, h3⟩, st⟩
  · dsimp only [Pt.U, Pt.locs, Pt.cells, Pt.slots] at X' e1 e2 h1 h2 h3 st
    subst h1; subst h2; subst h3
    exact Or.inl ⟨v, (T.setVm vm₁).calling g' mk As.toArray, t, U', L, hT, X', hL, e1, e2, hq, st⟩
  · dsimp only [Pt.U, Pt.locs, Pt.cells, Pt.slots] at X' e1 e2 h1 h2 h3 st hcl
    subst h1; subst h2; subst h3
    exact Or.inr ⟨q, (T.setVm vm₁).calling g' mk As.toArray, t, U', L, E, ce, hT, X', hL, e1, e2, hq, hce, hcv, vx_cls hW₁ hcl, st⟩
end Runs
section Rows
variable {p : Program} {l : Launch} {e : Env} {R : Room} {s : State} {m : MethodId} {args : Array Value} {below : List Frame} {meth : Method} {c : Code} {H : Heap} {locs : List Loc} {cells slots : Nat} {Q : State → Prop}
variable {mc ms : Nat} {free : Addr → Prop} {A0 A1 : Nat → Prop} {H0 : Heap} {a : Array Value} {pc : Nat} {ls : Array Slot} {st0 rest : List Value}
theorem vx_keep {st₀ t T' : State} {L : List Loc} (h0 : st₀.heap = H) (e1 : T'.heap = t.heap) (hS : va_S A0 H0 H locs) (hA : ∀ q, q < H.size → A1 q → A0 q) (hf : ∀ q, free q → A0 q) (hL : ∀ q ∈ L, free q.base) (hF : va_F A1 st₀ t) :
    H.size ≤ T'.heap.size ∧ (∀ q : Nat, q < H.size → ¬ A1 q → T'.heap[q]? = H[q]?) ∧ va_S A0 H0 T'.heap (locs ++ L) := by
  obtain ⟨hz, hk⟩ := hF
  rw [h0] at hz hk
  exact ⟨by rw [e1]; exact hz, fun q h1 h2 => by rw [e1]; exact hk q h1 h2,
    ⟨Nat.le_trans hS.1 (by rw [e1]; exact hz), fun q h1 h2 => by rw [e1, hk q (Nat.lt_of_lt_of_le h1 hS.1) (fun z => h2 (hA q (Nat.lt_of_lt_of_le h1 hS.1) z))]; exact hS.2.1 q h1 h2, fun q hq => by
      rcases List.mem_append.mp hq with h | h
      · exact hS.2.2 q h
      · exact hf _ (hL q h)⟩⟩
theorem vx_calli {S SX : Type} {post : Int32 → S → Prop} {px : SX → Prop} {B : S → State → Prop} {BX : String → SX → State → Prop} {AX : Nat → Prop} (hr : vx_Run p l e R s m args below meth c H locs cells slots mc ms (F0 m pc ls st0) rest (va_Qi post B A1 a) (vx_X px BX AX) free) (hS : va_S A0 H0 H locs) (hA : ∀ q, q < H.size → A1 q → A0 q) (hf : ∀ q, free q → A0 q) (hAX : ∀ q, q < H.size → AX q → A0 q)
    (kx : ∀ (E : String) (ce : Cell) (q9 : Addr) (u : SX) (t : State) (H1 : Heap) (locs1 : List Loc), t.heap = H1 → s.vm.Alike t.vm → px u → BX E u t → H.size ≤ H1.size → (∀ q : Nat, q < H.size → ¬ AX q → H1[q]? = H[q]?) → va_S A0 H0 H1 locs1 → H1[q9]? = some ce → ce.vm = .none → s.vm.findClass E = some ce.cls → vx_W p l e R s m args below meth c H1 locs1 (cells + mc) (slots + ms) Q (F0 m pc ls rest) q9)
    (kk : ∀ (r : Int32) (u : S) (t : State) (H1 : Heap) (locs1 : List Loc), t.heap = H1 → s.vm.Alike t.vm → post r u → B u t → H.size ≤ H1.size → (∀ q : Nat, q < H.size → ¬ A1 q → H1[q]? = H[q]?) → va_S A0 H0 H1 locs1 → W p l e R s m args below meth c H1 locs1 (cells + mc) (slots + ms) Q (F0 m (pc + 3) ls (.int r :: rest))) : W p l e R s m args below meth c H locs cells slots Q (F0 m pc ls st0) := by
  intro T hT X
  rcases hr T hT X with ⟨v, st₀, t, T', L, h0, X', hL, e1, e2, ⟨⟨r, u, hv, hp, hb⟩, hF⟩, st⟩ | ⟨q, st₀, t, T', L, E, ce, h0, X', hL, e1, e2, ⟨u, hp, hb, hF⟩, hce, hcv, hcl, st⟩
  · cases hv
    obtain ⟨k1, k2, k3⟩ := vx_keep h0 e1 hS hA hf hL hF
    obtain ⟨t2, a1, b1⟩ := kk r u t T'.heap (locs ++ L) e1.symm (by rw [← e2]; exact X'.warmed.alike) hp hb k1 k2 k3 T' rfl X'
    exact ⟨t2, st t2 a1, b1⟩
  · obtain ⟨k1, k2, k3⟩ := vx_keep h0 e1 hS hAX hf hL hF
    obtain ⟨t2, a1, b1⟩ := kx E ce q u t T'.heap (locs ++ L) e1.symm (by rw [← e2]; exact X'.warmed.alike) hp hb k1 k2 k3 (by rw [e1]; exact hce) hcv hcl T' rfl X'
    exact ⟨t2, st.trans a1, b1⟩
theorem vx_calll {S SX : Type} {post : Int64 → S → Prop} {px : SX → Prop} {B : S → State → Prop} {BX : String → SX → State → Prop} {AX : Nat → Prop} (hr : vx_Run p l e R s m args below meth c H locs cells slots mc ms (F0 m pc ls st0) rest (va_Ql post B A1 a) (vx_X px BX AX) free) (hS : va_S A0 H0 H locs) (hA : ∀ q, q < H.size → A1 q → A0 q) (hf : ∀ q, free q → A0 q) (hAX : ∀ q, q < H.size → AX q → A0 q)
    (kx : ∀ (E : String) (ce : Cell) (q9 : Addr) (u : SX) (t : State) (H1 : Heap) (locs1 : List Loc), t.heap = H1 → s.vm.Alike t.vm → px u → BX E u t → H.size ≤ H1.size → (∀ q : Nat, q < H.size → ¬ AX q → H1[q]? = H[q]?) → va_S A0 H0 H1 locs1 → H1[q9]? = some ce → ce.vm = .none → s.vm.findClass E = some ce.cls → vx_W p l e R s m args below meth c H1 locs1 (cells + mc) (slots + ms) Q (F0 m pc ls rest) q9)
    (kk : ∀ (r : Int64) (u : S) (t : State) (H1 : Heap) (locs1 : List Loc), t.heap = H1 → s.vm.Alike t.vm → post r u → B u t → H.size ≤ H1.size → (∀ q : Nat, q < H.size → ¬ A1 q → H1[q]? = H[q]?) → va_S A0 H0 H1 locs1 → W p l e R s m args below meth c H1 locs1 (cells + mc) (slots + ms) Q (F0 m (pc + 3) ls (.long r :: rest))) : W p l e R s m args below meth c H locs cells slots Q (F0 m pc ls st0) := by
  intro T hT X
  rcases hr T hT X with ⟨v, st₀, t, T', L, h0, X', hL, e1, e2, ⟨⟨r, u, hv, hp, hb⟩, hF⟩, st⟩ | ⟨q, st₀, t, T', L, E, ce, h0, X', hL, e1, e2, ⟨u, hp, hb, hF⟩, hce, hcv, hcl, st⟩
  · cases hv
    obtain ⟨k1, k2, k3⟩ := vx_keep h0 e1 hS hA hf hL hF
    obtain ⟨t2, a1, b1⟩ := kk r u t T'.heap (locs ++ L) e1.symm (by rw [← e2]; exact X'.warmed.alike) hp hb k1 k2 k3 T' rfl X'
    exact ⟨t2, st t2 a1, b1⟩
  · obtain ⟨k1, k2, k3⟩ := vx_keep h0 e1 hS hAX hf hL hF
    obtain ⟨t2, a1, b1⟩ := kx E ce q u t T'.heap (locs ++ L) e1.symm (by rw [← e2]; exact X'.warmed.alike) hp hb k1 k2 k3 (by rw [e1]; exact hce) hcv hcl T' rfl X'
    exact ⟨t2, st.trans a1, b1⟩
theorem vx_callf {S SX : Type} {post : UInt32 → S → Prop} {px : SX → Prop} {B : S → State → Prop} {BX : String → SX → State → Prop} {AX : Nat → Prop} (hr : vx_Run p l e R s m args below meth c H locs cells slots mc ms (F0 m pc ls st0) rest (va_Qf post B A1 a) (vx_X px BX AX) free) (hS : va_S A0 H0 H locs) (hA : ∀ q, q < H.size → A1 q → A0 q) (hf : ∀ q, free q → A0 q) (hAX : ∀ q, q < H.size → AX q → A0 q)
    (kx : ∀ (E : String) (ce : Cell) (q9 : Addr) (u : SX) (t : State) (H1 : Heap) (locs1 : List Loc), t.heap = H1 → s.vm.Alike t.vm → px u → BX E u t → H.size ≤ H1.size → (∀ q : Nat, q < H.size → ¬ AX q → H1[q]? = H[q]?) → va_S A0 H0 H1 locs1 → H1[q9]? = some ce → ce.vm = .none → s.vm.findClass E = some ce.cls → vx_W p l e R s m args below meth c H1 locs1 (cells + mc) (slots + ms) Q (F0 m pc ls rest) q9)
    (kk : ∀ (r : UInt32) (u : S) (t : State) (H1 : Heap) (locs1 : List Loc), t.heap = H1 → s.vm.Alike t.vm → post r u → B u t → H.size ≤ H1.size → (∀ q : Nat, q < H.size → ¬ A1 q → H1[q]? = H[q]?) → va_S A0 H0 H1 locs1 → W p l e R s m args below meth c H1 locs1 (cells + mc) (slots + ms) Q (F0 m (pc + 3) ls (.float r :: rest))) : W p l e R s m args below meth c H locs cells slots Q (F0 m pc ls st0) := by
  intro T hT X
  rcases hr T hT X with ⟨v, st₀, t, T', L, h0, X', hL, e1, e2, ⟨⟨r, u, hv, hp, hb⟩, hF⟩, st⟩ | ⟨q, st₀, t, T', L, E, ce, h0, X', hL, e1, e2, ⟨u, hp, hb, hF⟩, hce, hcv, hcl, st⟩
  · cases hv
    obtain ⟨k1, k2, k3⟩ := vx_keep h0 e1 hS hA hf hL hF
    obtain ⟨t2, a1, b1⟩ := kk r u t T'.heap (locs ++ L) e1.symm (by rw [← e2]; exact X'.warmed.alike) hp hb k1 k2 k3 T' rfl X'
    exact ⟨t2, st t2 a1, b1⟩
  · obtain ⟨k1, k2, k3⟩ := vx_keep h0 e1 hS hAX hf hL hF
    obtain ⟨t2, a1, b1⟩ := kx E ce q u t T'.heap (locs ++ L) e1.symm (by rw [← e2]; exact X'.warmed.alike) hp hb k1 k2 k3 (by rw [e1]; exact hce) hcv hcl T' rfl X'
    exact ⟨t2, st.trans a1, b1⟩
theorem vx_calld {S SX : Type} {post : UInt64 → S → Prop} {px : SX → Prop} {B : S → State → Prop} {BX : String → SX → State → Prop} {AX : Nat → Prop} (hr : vx_Run p l e R s m args below meth c H locs cells slots mc ms (F0 m pc ls st0) rest (va_Qd post B A1 a) (vx_X px BX AX) free) (hS : va_S A0 H0 H locs) (hA : ∀ q, q < H.size → A1 q → A0 q) (hf : ∀ q, free q → A0 q) (hAX : ∀ q, q < H.size → AX q → A0 q)
    (kx : ∀ (E : String) (ce : Cell) (q9 : Addr) (u : SX) (t : State) (H1 : Heap) (locs1 : List Loc), t.heap = H1 → s.vm.Alike t.vm → px u → BX E u t → H.size ≤ H1.size → (∀ q : Nat, q < H.size → ¬ AX q → H1[q]? = H[q]?) → va_S A0 H0 H1 locs1 → H1[q9]? = some ce → ce.vm = .none → s.vm.findClass E = some ce.cls → vx_W p l e R s m args below meth c H1 locs1 (cells + mc) (slots + ms) Q (F0 m pc ls rest) q9)
    (kk : ∀ (r : UInt64) (u : S) (t : State) (H1 : Heap) (locs1 : List Loc), t.heap = H1 → s.vm.Alike t.vm → post r u → B u t → H.size ≤ H1.size → (∀ q : Nat, q < H.size → ¬ A1 q → H1[q]? = H[q]?) → va_S A0 H0 H1 locs1 → W p l e R s m args below meth c H1 locs1 (cells + mc) (slots + ms) Q (F0 m (pc + 3) ls (.double r :: rest))) : W p l e R s m args below meth c H locs cells slots Q (F0 m pc ls st0) := by
  intro T hT X
  rcases hr T hT X with ⟨v, st₀, t, T', L, h0, X', hL, e1, e2, ⟨⟨r, u, hv, hp, hb⟩, hF⟩, st⟩ | ⟨q, st₀, t, T', L, E, ce, h0, X', hL, e1, e2, ⟨u, hp, hb, hF⟩, hce, hcv, hcl, st⟩
  · cases hv
    obtain ⟨k1, k2, k3⟩ := vx_keep h0 e1 hS hA hf hL hF
    obtain ⟨t2, a1, b1⟩ := kk r u t T'.heap (locs ++ L) e1.symm (by rw [← e2]; exact X'.warmed.alike) hp hb k1 k2 k3 T' rfl X'
    exact ⟨t2, st t2 a1, b1⟩
  · obtain ⟨k1, k2, k3⟩ := vx_keep h0 e1 hS hAX hf hL hF
    obtain ⟨t2, a1, b1⟩ := kx E ce q u t T'.heap (locs ++ L) e1.symm (by rw [← e2]; exact X'.warmed.alike) hp hb k1 k2 k3 (by rw [e1]; exact hce) hcv hcl T' rfl X'
    exact ⟨t2, st.trans a1, b1⟩
theorem vx_callv {S SX : Type} {post : S → Prop} {px : SX → Prop} {B : S → State → Prop} {BX : String → SX → State → Prop} {AX : Nat → Prop} (hr : vx_Run p l e R s m args below meth c H locs cells slots mc ms (F0 m pc ls st0) rest (va_Qv post B A1 a) (vx_X px BX AX) free) (hS : va_S A0 H0 H locs) (hA : ∀ q, q < H.size → A1 q → A0 q) (hf : ∀ q, free q → A0 q) (hAX : ∀ q, q < H.size → AX q → A0 q)
    (kx : ∀ (E : String) (ce : Cell) (q9 : Addr) (u : SX) (t : State) (H1 : Heap) (locs1 : List Loc), t.heap = H1 → s.vm.Alike t.vm → px u → BX E u t → H.size ≤ H1.size → (∀ q : Nat, q < H.size → ¬ AX q → H1[q]? = H[q]?) → va_S A0 H0 H1 locs1 → H1[q9]? = some ce → ce.vm = .none → s.vm.findClass E = some ce.cls → vx_W p l e R s m args below meth c H1 locs1 (cells + mc) (slots + ms) Q (F0 m pc ls rest) q9)
    (kk : ∀ (u : S) (t : State) (H1 : Heap) (locs1 : List Loc), t.heap = H1 → s.vm.Alike t.vm → post u → B u t → H.size ≤ H1.size → (∀ q : Nat, q < H.size → ¬ A1 q → H1[q]? = H[q]?) → va_S A0 H0 H1 locs1 → W p l e R s m args below meth c H1 locs1 (cells + mc) (slots + ms) Q (F0 m (pc + 3) ls (rest))) : W p l e R s m args below meth c H locs cells slots Q (F0 m pc ls st0) := by
  intro T hT X
  rcases hr T hT X with ⟨v, st₀, t, T', L, h0, X', hL, e1, e2, ⟨⟨u, hv, hp, hb⟩, hF⟩, st⟩ | ⟨q, st₀, t, T', L, E, ce, h0, X', hL, e1, e2, ⟨u, hp, hb, hF⟩, hce, hcv, hcl, st⟩
  · cases hv
    obtain ⟨k1, k2, k3⟩ := vx_keep h0 e1 hS hA hf hL hF
    obtain ⟨t2, a1, b1⟩ := kk u t T'.heap (locs ++ L) e1.symm (by rw [← e2]; exact X'.warmed.alike) hp hb k1 k2 k3 T' rfl X'
    exact ⟨t2, st t2 a1, b1⟩
  · obtain ⟨k1, k2, k3⟩ := vx_keep h0 e1 hS hAX hf hL hF
    obtain ⟨t2, a1, b1⟩ := kx E ce q u t T'.heap (locs ++ L) e1.symm (by rw [← e2]; exact X'.warmed.alike) hp hb k1 k2 k3 (by rw [e1]; exact hce) hcv hcl T' rfl X'
    exact ⟨t2, st.trans a1, b1⟩
/-- caught by the row x of this method's table; the rows ahead don't take it -/
theorem vx_catch {own name : String} {E : String} {ce : Cell} {q : Addr} (hown : s.vm.findClass own = some m.cls) (pre : List ExceptionTableEntry) (x : ExceptionTableEntry) (suf : List ExceptionTableEntry) (hsplit : c.exceptionTable.toList = pre ++ x :: suf)
    (hpass : ∀ z ∈ pre, covers z pc = false ∨ (z.catchType ≠ 0 ∧ ∃ nm : String, (Cond.classLink own z.catchType nm).before args s = true ∧ va_Nc E nm s)) (hx : covers x pc = true) (h0 : x.catchType ≠ 0)
    (hlink : (Cond.classLink own x.catchType name).before args s = true) (hcast : (Cond.castable E name).before args s = true) (hcell : H[q]? = some ce) (hv : ce.vm = .none) (hcl : s.vm.findClass E = some ce.cls)
    (kk : W p l e R s m args below meth c H locs cells slots Q (F0 m x.handlerPc ls [.ref q])) : vx_W p l e R s m args below meth c H locs cells slots Q (F0 m pc ls rest) q := by
  intro T hT X
  have hpl : e.platform.magicAccessors = ({} : Platform).magicAccessors := by rw [X.admits.platform]
  obtain ⟨c3, c4, hc3, hc4, hasg⟩ := Cond.castable_spec hcast
  cases Option.some.inj (hc3.symm.trans hcl)
  obtain ⟨c5, hc5, hcl5⟩ := Cond.classLink_spec hown hlink e.platform hpl
  cases Option.some.inj (hc4.symm.trans hc5)
  obtain ⟨vm', X', st⟩ := X.thenCaughtThrough q (g := F0 m pc ls rest) rfl (Steps.refl _) (by rw [hT]; exact hcell) (by rw [hv]; rfl) (by obtain ⟨k9, h9, -⟩ := Vm.findClass_spec hcl; exact ⟨k9, h9⟩) pre x suf hsplit
    (fun z hz => by
      rcases hpass z hz with h | ⟨hz0, nm, hl1, hn1⟩
      · exact Or.inl h
      · obtain ⟨c6, hc6, hcl6⟩ := Cond.classLink_spec hown hl1 e.platform hpl
        obtain ⟨a8, b8, h1, h2, h3⟩ := hn1
        cases Option.some.inj (h1.symm.trans hcl)
        cases Option.some.inj (h2.symm.trans hc6)
        exact Or.inr ⟨hz0, _, hcl6, h3⟩) hx (Or.inr ⟨h0, c4, hcl5, hasg⟩)
  obtain ⟨t, a1, b1⟩ := kk (T.setVm vm') hT X'
  exact ⟨t, st.trans a1, b1⟩
end Rows
section Ends
variable {p : Program} {l : Launch} {e : Env} {R : Room} {s : State} {m : MethodId} {args : Array Value} {below : List Frame} {meth : Method} {c : Code} {H : Heap} {locs : List Loc} {cells slots : Nat} {Q : State → Prop}
variable {mc ms : Nat} {free : Addr → Prop} {A0 A1 : Nat → Prop} {H0 : Heap} {a : Array Value} {ls : Array Slot} {st0 rest : List Value}
variable {Qc : Array Value → State → Outcome → State → Prop} {XC : String → State → State → Prop}
/-- what a body that may throw owes at its end -/
def vx_MQ (below : List Frame) (Qc : Array Value → State → Outcome → State → Prop) (XC : String → State → State → Prop) (a : Array Value) (s : State) (mc ms : Nat) (free : Addr → Prop) : State → Prop := fun t =>
  ∃ o, t.status = .running ∧ Ended t below o ∧ vx_Q Qc XC mc ms free a s o t
theorem vx_ret {g : JFrame} {mc ms : Nat} (k : W p l e R s m args below meth c H locs cells slots (MQ below Qc args s mc ms free) g) : W p l e R s m args below meth c H locs cells slots (vx_MQ below Qc XC args s mc ms free) g := by
  intro T hT X
  obtain ⟨t, a1, o, b1, b2, b3, b4⟩ := k T hT X
  exact ⟨t, a1, o, b1, b2, Or.inl ⟨b3, b4⟩⟩
/-- not caught here: it goes on to the caller -/
theorem vx_widen {g : JFrame} {q : Addr} {k n : Nat} (h1 : cells ≤ k) (h2 : slots ≤ n) (kk : vx_W p l e R s m args below meth c H locs k n Q g q) : vx_W p l e R s m args below meth c H locs cells slots Q g q := fun T hT X => kk T hT (stand_widen X h1 h2)
theorem vx_out {pc : Nat} {E : String} {ce : Cell} {q : Addr} {mc ms : Nat} (hout : ∀ x ∈ c.exceptionTable.toList, covers x pc = false) (hlocks : meth.locks = false) (hcell : H[q]? = some ce) (hv : ce.vm = .none) (hcl : s.vm.findClass E = some ce.cls)
    (hx : ∀ t : State, t.heap = H → s.vm.Alike t.vm → XC E s t) (hf : ∀ z ∈ locs, free z.base) (hc : cells ≤ mc) (hs : slots ≤ ms) :
    vx_W p l e R s m args below meth c H locs cells slots (vx_MQ below Qc XC args s mc ms free) (F0 m pc ls rest) q := by
  intro T hT X
  obtain ⟨st1, hrun, hend, hW, hsm⟩ := X.leaveThrown q (g := F0 m pc ls rest) rfl rfl rfl hout hlocks
  have hcell9 : (T.setFrames (.throwing q :: below)).heap[q]? = some ce := by
    show T.heap[q]? = some ce
    rw [hT]; exact hcell
  exact ⟨_, st1, .threw q, hrun, hend, Or.inr ⟨q, rfl, E, ce, locs, hx _ hT hW.alike, hcell9, hv, hcl, hW, hsm.mono hc hs, hf⟩⟩
theorem vx_frame {U : State} {k n : Nat} (h : s.sameButNew ({ U with vm := s.vm } : State) locs k n) : s.heap.size ≤ U.heap.size ∧ ∀ q : Nat, q < s.heap.size → (∀ z ∈ locs, z.base ≠ q) → U.heap[q]? = s.heap[q]? := by
  obtain ⟨-, h2, -, -, -, h6⟩ := h
  refine ⟨h2, fun q hq hz => ?_⟩
  obtain ⟨c9, e1, e2, e3, e4⟩ := h6 q _ (Array.getElem?_eq_getElem hq)
  have hs : c9.slots = (s.heap[q]).slots := Array.ext_getElem? fun i => e4 i fun hm => hz _ hm rfl
  have h9 : c9 = s.heap[q] := by
    rw [hs] at e2
    exact e2
  have e5 : U.heap[q]? = some c9 := e1
  rw [e5, h9, Array.getElem?_eq_getElem hq]
/-- the words of a throw but the four that speak of the heap -/
def vx_no (w : Cond) : Bool := decide (w ≠ .isRef (.static Bundle.tN "UNASSIGNED_STACK" Bundle.steD)) && decide (w ≠ .isRef (.static Bundle.tN "SUPPRESSED_SENTINEL" Bundle.listD)) && decide (w ≠ .laysStatic Bundle.tN "UNASSIGNED_STACK" Bundle.steD) && decide (w ≠ .laysStatic Bundle.tN "SUPPRESSED_SENTINEL" Bundle.listD)
def vx_at0 (own : String) (ic : Nat) (X : String) (names : List String) : List Cond := (Bundle.ownAtoms0 own ic X names).filter vx_no
def vx_atS (own : String) (ic : Nat) (X : String) (names : List String) : List Cond := (Bundle.ownAtoms own ic X names).filter vx_no
/-- a word that the tables alone decide, or a good one -/
def vx_ot (w : Cond) : Bool := w.onTables || goodWord w
theorem vx_ot_at {args a' : Array Value} {s U : State} {w : Cond} (hW : s.WarmedH U.vm) (hvm : s.vm = U.vm) (hg : vx_ot w = true) (h : w.before args s = true) : w.before a' U = true := by
  simp only [vx_ot, Bool.or_eq_true] at hg
  rcases hg with hg | hg
  · exact va_tabs hg hvm h
  · exact word_at hW (good_of_word hg) h
/-- a list's words: the good ones out of the method's own list, the others by premises of their own -/
theorem vx_hat {args : Array Value} {s : State} {L B : List Cond} (h1 : ∀ w ∈ L.filter goodWord, w.before args s = true) (h2 : ∀ w ∈ L.filter (fun w => !goodWord w), w ∈ B) (h3 : ∀ w ∈ B, w.before args s = true) : ∀ w ∈ L, w.before args s = true := by
  intro w hw
  by_cases g : goodWord w = true
  · exact h1 w (List.mem_filter.mpr ⟨hw, g⟩)
  · refine h3 w (h2 w (List.mem_filter.mpr ⟨hw, ?_⟩))
    show (!goodWord w) = true
    cases hgw : goodWord w
    · rfl
    · exact absurd hgw g
theorem vx_c {args : Array Value} {s : State} {w : Cond} {B : List Cond} (h : w.before args s = true) (t : ∀ w ∈ B, w.before args s = true) : ∀ w' ∈ w :: B, w'.before args s = true := fun w' h' => (List.mem_cons.mp h').elim (fun e => by rw [e]; exact h) (t w')
theorem vx_n {args : Array Value} {s : State} : ∀ w ∈ ([] : List Cond), w.before args s = true := fun _ h => nomatch h
theorem vx_own {args : Array Value} {s : State} {L : List Cond} (h1 : ∀ w ∈ L.filter vx_no, w.before args s = true)
    (hU : (Cond.isRef (.static Bundle.tN "UNASSIGNED_STACK" Bundle.steD)).before args s = true) (hN : (Cond.isRef (.static Bundle.tN "SUPPRESSED_SENTINEL" Bundle.listD)).before args s = true)
    (lU : (Cond.laysStatic Bundle.tN "UNASSIGNED_STACK" Bundle.steD).before args s = true) (lN : (Cond.laysStatic Bundle.tN "SUPPRESSED_SENTINEL" Bundle.listD).before args s = true) : ∀ w ∈ L, w.before args s = true := by
  intro w hw
  by_cases e1 : w = .isRef (.static Bundle.tN "UNASSIGNED_STACK" Bundle.steD)
  · rw [e1]; exact hU
  · by_cases e2 : w = .isRef (.static Bundle.tN "SUPPRESSED_SENTINEL" Bundle.listD)
    · rw [e2]; exact hN
    · by_cases e3 : w = .laysStatic Bundle.tN "UNASSIGNED_STACK" Bundle.steD
      · rw [e3]; exact lU
      · by_cases e4 : w = .laysStatic Bundle.tN "SUPPRESSED_SENTINEL" Bundle.listD
        · rw [e4]; exact lN
        · exact h1 w (List.mem_filter.mpr ⟨hw, by unfold vx_no; rw [decide_eq_true e1, decide_eq_true e2, decide_eq_true e3, decide_eq_true e4]; rfl⟩)
/-- where a static field lies, its class's statics cell in H -/
def vx_L (C n d : String) (A : Nat → Prop) (U : State) (H : Heap) : Prop := ∃ (c : ClassId) (k : Class) (i : Nat) (f : Field) (a : Nat) (cell : Cell), U.vm.findClass C = some c ∧ U.fieldFound? C n d = some (c, k, i, f) ∧ f.isStatic = true ∧ k.statics = some a ∧ H[a]? = some cell ∧ cell.vm.isStatics = true ∧ cell.cls = c ∧ f.slot < cell.slots.size ∧ k.staticTypes[f.slot]? = some f.type ∧ ¬ A a
theorem vx_L.moved {C n d : String} {A : Nat → Prop} {u U : State} {H : Heap} (hvm : u.vm.Alike U.vm) (h : vx_L C n d A u H) : vx_L C n d A U H := by
  obtain ⟨c, k, i, f, a, cell, h1, h2, h3, h4, h5, h6, h7, h8, h9, h10⟩ := h
  obtain ⟨k', hi', he⟩ := State.fieldFound?_setVm hvm h2
  exact ⟨c, k', i, f, a, cell, by rw [hvm.findClass]; exact h1, hi', h3, by rw [he]; exact h4, h5, h6, h7, h8, by rw [he]; exact h9, h10⟩
theorem vx_L.kept {C n d : String} {A : Nat → Prop} {U : State} {H H1 : Heap} (h : vx_L C n d A U H) (hq : ∀ a : Nat, a < H.size → ¬ A a → H1[a]? = H[a]?) : vx_L C n d A U H1 := by
  obtain ⟨c, k, i, f, a, cell, h1, h2, h3, h4, h5, h6, h7, h8, h9, h10⟩ := h
  exact ⟨c, k, i, f, a, cell, h1, h2, h3, h4, by rw [hq a (Array.getElem?_eq_some_iff.mp h5).1 h10]; exact h5, h6, h7, h8, h9, h10⟩
theorem vx_L.narrow {C n d : String} {A B : Nat → Prop} {U : State} {H : Heap} (h : vx_L C n d A U H) (hAB : ∀ q, B q → A q) : vx_L C n d B U H := by
  obtain ⟨c, k, i, f, a, cell, h1, h2, h3, h4, h5, h6, h7, h8, h9, h10⟩ := h
  exact ⟨c, k, i, f, a, cell, h1, h2, h3, h4, h5, h6, h7, h8, h9, fun z => h10 (hAB _ z)⟩
theorem vx_L.word {C n d : String} {A : Nat → Prop} {s : State} {args : Array Value} (h : vx_L C n d A s s.heap) : (Cond.laysStatic C n d).before args s = true := by
  obtain ⟨c, k, i, f, a, cell, h1, h2, h3, h4, h5, h6, h7, h8, h9, -⟩ := h
  show (Cond.laysStatic C n d).holds args s none s [] = true
  exact Cond.laysStatic_of h1 h2 h3 h4 h5 h6 h7 h8 h9
/-- .. and what it holds: null or some reference -/
def vx_Zq (C n d : String) (A : Nat → Prop) (U : State) (H : Heap) : Prop := va_Zq C n d A U H ∧ vx_L C n d A U H
theorem vx_Zq.moved {C n d : String} {A : Nat → Prop} {u U : State} {H : Heap} (hvm : u.vm.Alike U.vm) (h : vx_Zq C n d A u H) : vx_Zq C n d A U H := ⟨va_Zq.moved hvm h.1, vx_L.moved hvm h.2⟩
theorem vx_Zq.kept {C n d : String} {A : Nat → Prop} {U : State} {H H1 : Heap} (h : vx_Zq C n d A U H) (hq : ∀ a : Nat, a < H.size → ¬ A a → H1[a]? = H[a]?) : vx_Zq C n d A U H1 := ⟨va_Zq.kept h.1 hq, vx_L.kept h.2 hq⟩
theorem vx_Zq.narrow {C n d : String} {A B : Nat → Prop} {U : State} {H : Heap} (h : vx_Zq C n d A U H) (hAB : ∀ q, B q → A q) : vx_Zq C n d B U H := ⟨va_Zq.narrow h.1 hAB, vx_L.narrow h.2 hAB⟩
theorem vx_Zqof {args : Array Value} {s : State} {C n d : String} {A : Nat → Prop} (hl : (Cond.laysStatic C n d).before args s = true) (hini : (Cond.initialized C).before args s = true) (h : (Cond.isRef (.static C n d)).before args s = true) (hA : ∀ a : Nat, a < s.heap.size → ¬ A a) : vx_Zq C n d A s s.heap := by
  refine ⟨va_Zqof hl hini h hA, ?_⟩
  obtain ⟨c, k, i, f, a, cell, h1, h2, h3, h4, h5, h6, h7, h8, h9⟩ := Cond.laysStatic_spec hl
  exact ⟨c, k, i, f, a, cell, h1, h2, h3, h4, h5, h6, h7, h8, h9, hA a (Array.getElem?_eq_some_iff.mp h5).1⟩
theorem vx_isRef {C n d : String} {v : Value} {A : Nat → Prop} {s : State} {args : Array Value} (h : va_Z C n d v A s s.heap) (hv : v.isRef = true) : (Cond.isRef (.static C n d)).before args s = true := by
  obtain ⟨cf, kf, fi, f, a, cell, h1, h2, h3, h4, h5, h6, h7, -⟩ := h
  have he : (Term.static C n d).eval args s none [] s = some v := by
    simp [Term.eval, State.fieldNamed?, h1, h2, h4, h5, h6, h7]
  simp only [Cond.before, Cond.holds, Cond.value, he]
  cases v <;> simp_all [Value.isRef]
theorem vx_isRefq {C n d : String} {A : Nat → Prop} {s : State} {args : Array Value} (h : va_Zq C n d A s s.heap) : (Cond.isRef (.static C n d)).before args s = true := by
  rcases h with h | ⟨t, h⟩
  · exact vx_isRef h rfl
  · exact vx_isRef h rfl
/-- the same frame, seen from here: as if the method were called anew in this heap -/
theorem vx_rebase {T : State} (X : Stand p l e R s m args below meth c T locs cells slots) {R' : Room} (hf : R'.frames ≤ R.frames) (hl : R'.locals ≤ R.locals) (hc : cells + R'.cells ≤ R.cells) (hs : slots + R'.slots ≤ R.slots) :
    Stand p l e R' ((T.setVm s.vm).setFrames (.invoking m args :: below)) m args below meth c T [] 0 0 := by
  have htop : (T.setVm s.vm).topJava?.isSome := X.here.top
  have hF : ((T.setVm s.vm).setFrames (.invoking m args :: below)).frames = .invoking m args :: below := State.frames_setFrames _ (State.cur_lt_of_top htop)
  obtain ⟨g₀, hg0⟩ := Option.isSome_iff_exists.mp htop
  obtain ⟨r, hr⟩ := State.topJava?_eq_some.mp hg0
  have hl9 : e.platform.stackLimits (T.setVm s.vm).me = e.platform.stackLimits s.me := X.limits
  have hb9 : (T.setVm s.vm).me.stackBytes = s.me.stackBytes := X.bytes
  refine ⟨X.admits, X.cas, X.clock, hF, ?_, X.hears, X.method, X.code, X.here, X.tail, X.warmed, ?_, ?_, ?_⟩
  · have h := X.room
    have hU : ((T.setVm s.vm).setFrames (.invoking m args :: below)).localsInUse = s.localsInUse := by
      rw [State.localsInUse_invoking hF (meth := meth) (c := c) X.method X.code, State.localsInUse_invoking X.frames X.method X.code]
    simp only [State.hasRoom, Bool.and_eq_true, decide_eq_true_eq] at h ⊢
    obtain ⟨⟨⟨⟨h1, h2, h3, h4, h5, h6⟩, h7⟩, h8⟩, h9⟩ := h
    rw [X.frames, List.length_cons] at h2 h3
    have q1 := X.heapSize
    have q2 := X.used
    simp only [hF, hU, List.length_cons, State.stackLimits_setFrames, State.stackBytes_setFrames, hl9, hb9]
    refine ⟨⟨⟨⟨by omega, by omega, by omega, by omega, by omega, h6⟩, ?_⟩, ?_⟩, X.book⟩
    · show T.heap.size + R'.cells ≤ e.platform.maxCells
      omega
    · show T.slotsUsed + R'.slots ≤ e.platform.maxSlots
      omega
  · rw [State.stackLimits_setFrames]; rfl
  · rw [State.stackBytes_setFrames]; rfl
  · refine ⟨?_, Nat.le_refl _, Nat.le_refl _, ?_, ?_, fun a c9 h9 => ⟨c9, h9, rfl, rfl, fun _ _ => rfl⟩⟩
    · obtain ⟨t, ht, -⟩ := State.frames_cons hr
      show T.setVm s.vm = { ((T.setVm s.vm).setFrames (.invoking m args :: below)).setFrames (T.setVm s.vm).frames with heap := T.heap, slotsUsed := T.slotsUsed }
      rw [State.setFrames_setFrames, State.setFrames_self ht]
      rfl
    · show T.slotsUsed = T.slotsUsed + ((T.heap.toList.drop T.heap.size).map (·.slots.size)).sum
      rw [List.drop_eq_nil_of_le (Nat.le_of_eq Array.length_toList)]
      rfl
    · show ((T.heap.toList.drop T.heap.size).map (·.slots.size)).sum ≤ 0
      rw [List.drop_eq_nil_of_le (Nat.le_of_eq Array.length_toList)]
      exact Nat.le_refl _
/-- 'throw new E()': new; dup; invokespecial; athrow -/
theorem vx_throw0 {cc : ByteArray} {pc : Nat} (hexec : p.tables.exec = Jvm.exec) (hb : c.code = cc) (hl : l.stackTraces = false) {own cls : String} {names : List String} {ik ic mc ms : Nat} {A : Nat → Prop}
    (hown : s.vm.findClass own = some m.cls) (hcls : Bundle.fit cls = true) (hnames : ∀ n ∈ names, Bundle.fit n = true)
    (hk : (Cond.classLink own ik cls).before args s = true) (hini : (Cond.initialized cls).before args s = true) (hat : ∀ w ∈ vx_at0 own ic cls names, w.before args s = true)
    (hgood : ∀ w ∈ Cond.classLink own ik cls :: Cond.initialized cls :: vx_at0 own ic cls names, vx_ot w = true)
    (hU : vx_Zq Bundle.tN "UNASSIGNED_STACK" Bundle.steD A s s.heap) (hN : vx_Zq Bundle.tN "SUPPRESSED_SENTINEL" Bundle.listD A s s.heap) (hS : va_S A s.heap H locs) (hsize : ls.size = c.maxLocals)
    (d0 : decode cc pc = .ok (.new ik, 3)) (d3 : decode cc (pc + 3) = .ok (.dup, 1)) (d4 : decode cc (pc + 4) = .ok (.invokespecial ic, 3)) (d7 : decode cc (pc + 7) = .ok (.athrow, 1))
    (hout : ∀ x ∈ c.exceptionTable.toList, covers x (pc + 7) = false)
    (hRframes : names.length + 3 < R.frames) (hRlocals : (rest.map fun v => v.category).sum + (13 * (names.length + 1) + 42) ≤ R.locals) (hRcells : cells + 1 ≤ R.cells) (hRslots : slots + 6 ≤ R.slots) (hlocks : meth.locks = false)
    (hx : ∀ t : State, s.vm.Alike t.vm → H.size ≤ t.heap.size → (∀ q : Nat, q < H.size → t.heap[q]? = H[q]?) → XC cls s t)
    (hf : ∀ z ∈ locs, free z.base) (hc : cells + 1 ≤ mc) (hs : slots + 6 ≤ ms) :
    W p l e R s m args below meth c H locs cells slots (vx_MQ below Qc XC args s mc ms free) (F0 m pc ls rest) := by
  intro T hT X
  have htr : e.platform.stackTraces = false := (show e.platform.stackTraces = l.stackTraces by rw [X.admits.platform]).trans hl
  have Y := vx_rebase X (R' := { frames := R.frames, locals := R.locals, cells := 1, slots := 6 }) (Nat.le_refl _) (Nat.le_refl _) hRcells hRslots
  obtain ⟨s', hA⟩ : ∃ z, z = (T.setVm s.vm).setFrames (.invoking m args :: below) := ⟨_, rfl⟩
  rw [← hA] at Y
  have hvm : s'.vm = s.vm := by rw [hA]; rfl
  have hhp : s'.heap = H := by rw [hA]; exact hT
  have hW0 : s.WarmedH s'.vm := by rw [hvm]; exact State.WarmedH.refl s
  have hat' : ∀ w ∈ vx_at0 own ic cls names, w.before args s' = true := fun w hw => vx_ot_at hW0 hvm.symm (hgood w (List.mem_cons_of_mem _ (List.mem_cons_of_mem _ hw))) (hat w hw)
  have hk' : (Cond.classLink own ik cls).before args s' = true := vx_ot_at hW0 hvm.symm (hgood _ List.mem_cons_self) hk
  have hini' : (Cond.initialized cls).before args s' = true := vx_ot_at hW0 hvm.symm (hgood _ (List.mem_cons_of_mem _ List.mem_cons_self)) hini
  have hU' : vx_Zq Bundle.tN "UNASSIGNED_STACK" Bundle.steD A s' s'.heap := by rw [hhp]; exact vx_Zq.moved hW0.alike (hU.kept hS.2.1)
  have hN' : vx_Zq Bundle.tN "SUPPRESSED_SENTINEL" Bundle.listD A s' s'.heap := by rw [hhp]; exact vx_Zq.moved hW0.alike (hN.kept hS.2.1)
  have h : ∀ w ∈ Bundle.ownAtoms0 own ic cls names, w.before args s' = true := vx_own hat' (vx_isRefq hU'.1) (vx_isRefq hN'.1) hU'.2.word hN'.2.word
  have hown' : s'.vm.findClass own = some m.cls := by rw [hvm]; exact hown
  have hins : (Cond.instantiable cls 6).before args s' = true := h _ (by simp [Bundle.ownAtoms0])
  obtain ⟨vm₁, cX, kX, hfX, hkX, -, -, X₁, st1⟩ := Y.newCold hexec (own := own) (C := cls) (index := ik) (n := 6) hown' hk' hins hini'
    (g := F0 m pc ls rest) rfl (by rw [hb]; exact d0) (Nat.le_refl _) (Nat.le_refl _)
  generalize hT1 : (T.setVm vm₁).pushCell { cls := cX, slots := kX.instanceTypes.map defaultValue, vm := .none } = T1 at X₁ st1
  have hcat : (Value.ref T.heap.size).category = 1 := rfl
  have hcellA : T1.heap[T.heap.size]? = some (freshCell cX kX) := by rw [← hT1]; exact State.heap_pushCell_size _ _
  have d3' : decode c.code (pc + 3) = .ok (.dup, 1) := by rw [hb]; exact d3
  obtain ⟨U, hsteps, hrun, hend, hW, hsame, ce, hce, hO⟩ := X₁.ctorThrow0 hexec htr (own := own) (cls := cls) (names := names) (ic := ic) hown' hcls hnames h (fun x hx => nomatch hx) hfX hkX hcellA (by rw [hhp, hT]; exact Nat.le_refl _)
    (g := { method := m, pc := pc + 4, locals := ls, stack := .ref T.heap.size :: .ref T.heap.size :: rest, locked := none }) rfl hsize rfl rfl (rest := rest) rfl
    (by rw [hb]; exact d4) (by rw [hb]; exact d7) hout hRframes (by simp only [List.map_cons, List.sum_cons, hcat]; omega) hlocks
  obtain ⟨f1, f2⟩ := vx_frame hsame
  rw [hhp] at f1 f2
  have hWs : s.WarmedH U.vm := State.WarmedH.trans hW0 hW
  have hcl : s.vm.findClass cls = some ce.cls := by
    have h9 := hO.cls
    rw [hvm] at h9
    exact h9
  have hall : s.sameButNew ({ U with vm := s.vm } : State) locs mc ms := by
    subst hA
    obtain ⟨e1, e2⟩ := hsame
    rw [State.setFrames_setFrames] at e1
    have h2 : (T.setVm s.vm).sameButNew ({ U with vm := s.vm } : State) [] (0 + 1) (0 + 6) := ⟨e1, e2⟩
    have h3 := X.same.trans h2
    rw [List.append_nil] at h3
    exact h3.mono hc hs
  refine ⟨U, ?_, .threw T.heap.size, hrun, hend, Or.inr ⟨T.heap.size, rfl, cls, ce, locs, hx U hWs.alike f1 (fun q hq => f2 q hq (fun z hz => nomatch hz)), hce, hO.vm, hcl, hWs, hall, hf⟩⟩
  refine st1 _ ?_
  show Steps p.tables e below (T1.setTop { method := m, pc := pc + 3, locals := ls, stack := .ref T.heap.size :: rest, locked := none }) _
  jvm_step X₁.here [X₁.here.top, hexec, d3', Value.category]
  exact hsteps
/-- 'throw new E("text")': new; dup; ldc; invokespecial; athrow -/
theorem vx_throwS {cc : ByteArray} {pc : Nat} (hexec : p.tables.exec = Jvm.exec) (hb : c.code = cc) (hl : l.stackTraces = false) {own cls text : String} {names : List String} {ik is ic mc ms sa : Nat} {A : Nat → Prop}
    (hown : s.vm.findClass own = some m.cls) (hcls : Bundle.fit cls = true) (hnames : ∀ n ∈ names, Bundle.fit n = true)
    (hk : (Cond.classLink own ik cls).before args s = true) (hini : (Cond.initialized cls).before args s = true) (hstr : vk_R own is text sa s) (hat : ∀ w ∈ vx_atS own ic cls names, w.before args s = true)
    (hgood : ∀ w ∈ Cond.classLink own ik cls :: Cond.initialized cls :: vx_atS own ic cls names, vx_ot w = true)
    (hU : vx_Zq Bundle.tN "UNASSIGNED_STACK" Bundle.steD A s s.heap) (hN : vx_Zq Bundle.tN "SUPPRESSED_SENTINEL" Bundle.listD A s s.heap) (hS : va_S A s.heap H locs) (hsize : ls.size = c.maxLocals)
    (d0 : decode cc pc = .ok (.new ik, 3)) (d3 : decode cc (pc + 3) = .ok (.dup, 1)) (d4 : decode cc (pc + 4) = .ok (.ldc is, 2)) (d6 : decode cc (pc + 6) = .ok (.invokespecial ic, 3)) (d9 : decode cc (pc + 9) = .ok (.athrow, 1))
    (hout : ∀ x ∈ c.exceptionTable.toList, covers x (pc + 9) = false)
    (hRframes : names.length + 3 < R.frames) (hRlocals : (rest.map fun v => v.category).sum + (13 * (names.length + 1) + 43) ≤ R.locals) (hRcells : cells + 1 ≤ R.cells) (hRslots : slots + 6 ≤ R.slots) (hlocks : meth.locks = false)
    (hx : ∀ t : State, s.vm.Alike t.vm → H.size ≤ t.heap.size → (∀ q : Nat, q < H.size → t.heap[q]? = H[q]?) → XC cls s t)
    (hf : ∀ z ∈ locs, free z.base) (hc : cells + 1 ≤ mc) (hs : slots + 6 ≤ ms) :
    W p l e R s m args below meth c H locs cells slots (vx_MQ below Qc XC args s mc ms free) (F0 m pc ls rest) := by
  intro T hT X
  have htr : e.platform.stackTraces = false := (show e.platform.stackTraces = l.stackTraces by rw [X.admits.platform]).trans hl
  have Y := vx_rebase X (R' := { frames := R.frames, locals := R.locals, cells := 1, slots := 6 }) (Nat.le_refl _) (Nat.le_refl _) hRcells hRslots
  obtain ⟨s', hA⟩ : ∃ z, z = (T.setVm s.vm).setFrames (.invoking m args :: below) := ⟨_, rfl⟩
  rw [← hA] at Y
  have hvm : s'.vm = s.vm := by rw [hA]; rfl
  have hhp : s'.heap = H := by rw [hA]; exact hT
  have hW0 : s.WarmedH s'.vm := by rw [hvm]; exact State.WarmedH.refl s
  have hat' : ∀ w ∈ vx_atS own ic cls names, w.before args s' = true := fun w hw => vx_ot_at hW0 hvm.symm (hgood w (List.mem_cons_of_mem _ (List.mem_cons_of_mem _ hw))) (hat w hw)
  have hk' : (Cond.classLink own ik cls).before args s' = true := vx_ot_at hW0 hvm.symm (hgood _ List.mem_cons_self) hk
  have hini' : (Cond.initialized cls).before args s' = true := vx_ot_at hW0 hvm.symm (hgood _ (List.mem_cons_of_mem _ List.mem_cons_self)) hini
  have hU' : vx_Zq Bundle.tN "UNASSIGNED_STACK" Bundle.steD A s' s'.heap := by rw [hhp]; exact vx_Zq.moved hW0.alike (hU.kept hS.2.1)
  have hN' : vx_Zq Bundle.tN "SUPPRESSED_SENTINEL" Bundle.listD A s' s'.heap := by rw [hhp]; exact vx_Zq.moved hW0.alike (hN.kept hS.2.1)
  have h : ∀ w ∈ Bundle.ownAtoms own ic cls names, w.before args s' = true := vx_own hat' (vx_isRefq hU'.1) (vx_isRefq hN'.1) hU'.2.word hN'.2.word
  have hown' : s'.vm.findClass own = some m.cls := by rw [hvm]; exact hown
  have hins : (Cond.instantiable cls 6).before args s' = true := h _ (by simp [Bundle.ownAtoms])
  obtain ⟨vm₁, cX, kX, hfX, hkX, -, -, X₁, st1⟩ := Y.newCold hexec (own := own) (C := cls) (index := ik) (n := 6) hown' hk' hins hini'
    (g := F0 m pc ls rest) rfl (by rw [hb]; exact d0) (Nat.le_refl _) (Nat.le_refl _)
  generalize hT1 : (T.setVm vm₁).pushCell { cls := cX, slots := kX.instanceTypes.map defaultValue, vm := .none } = T1 at X₁ st1
  have hcat : (Value.ref T.heap.size).category = 1 := rfl
  have hcellA : T1.heap[T.heap.size]? = some (freshCell cX kX) := by rw [← hT1]; exact State.heap_pushCell_size _ _
  have d3' : decode c.code (pc + 3) = .ok (.dup, 1) := by rw [hb]; exact d3
  have d4' : decode c.code (pc + 4) = .ok (.ldc is, 2) := by rw [hb]; exact d4
  have hstr' : vk_R own is text sa s' := vk_R.warm hW0 hstr
  obtain ⟨U, hsteps, hrun, hend, hW, hsame, ce, hce, hO⟩ := X₁.ctorThrowS hexec htr (own := own) (cls := cls) (names := names) (ic := ic) hown' hcls hnames h (fun x hx => nomatch hx) hfX hkX hcellA (by rw [hhp, hT]; exact Nat.le_refl _) (msg := .ref sa) rfl
    (g := { method := m, pc := pc + 6, locals := ls, stack := .ref sa :: .ref T.heap.size :: .ref T.heap.size :: rest, locked := none }) rfl hsize rfl rfl (rest := rest) rfl
    (by rw [hb]; exact d6) (by rw [hb]; exact d9) hout hRframes (by simp only [List.map_cons, List.sum_cons, hcat]; omega) hlocks
  obtain ⟨f1, f2⟩ := vx_frame hsame
  rw [hhp] at f1 f2
  have hWs : s.WarmedH U.vm := State.WarmedH.trans hW0 hW
  have hcl : s.vm.findClass cls = some ce.cls := by
    have h9 := hO.cls
    rw [hvm] at h9
    exact h9
  have hall : s.sameButNew ({ U with vm := s.vm } : State) locs mc ms := by
    subst hA
    obtain ⟨e1, e2⟩ := hsame
    rw [State.setFrames_setFrames] at e1
    have h2 : (T.setVm s.vm).sameButNew ({ U with vm := s.vm } : State) [] (0 + 1) (0 + 6) := ⟨e1, e2⟩
    have h3 := X.same.trans h2
    rw [List.append_nil] at h3
    exact h3.mono hc hs
  refine ⟨U, ?_, .threw T.heap.size, hrun, hend, Or.inr ⟨T.heap.size, rfl, cls, ce, locs, hx U hWs.alike f1 (fun q hq => f2 q hq (fun z hz => nomatch hz)), hce, hO.vm, hcl, hWs, hall, hf⟩⟩
  refine st1 _ ?_
  show Steps p.tables e below (T1.setTop { method := m, pc := pc + 3, locals := ls, stack := .ref T.heap.size :: rest, locked := none }) _
  jvm_step X₁.here [X₁.here.top, hexec, d3', Value.category]
  exact X₁.ldcString hexec (own := own) (text := text) (index := is) (a := sa) hown' hstr'.1 hstr'.2
    (g := { method := m, pc := pc + 4, locals := ls, stack := .ref T.heap.size :: .ref T.heap.size :: rest, locked := none }) rfl d4' _ hsteps
/-- 'throw new E("text")', the text by a wide index -/
theorem vx_throwSW {cc : ByteArray} {pc : Nat} (hexec : p.tables.exec = Jvm.exec) (hb : c.code = cc) (hl : l.stackTraces = false) {own cls text : String} {names : List String} {ik is ic mc ms sa : Nat} {A : Nat → Prop}
    (hown : s.vm.findClass own = some m.cls) (hcls : Bundle.fit cls = true) (hnames : ∀ n ∈ names, Bundle.fit n = true)
    (hk : (Cond.classLink own ik cls).before args s = true) (hini : (Cond.initialized cls).before args s = true) (hstr : vk_R own is text sa s) (hat : ∀ w ∈ vx_atS own ic cls names, w.before args s = true)
    (hgood : ∀ w ∈ Cond.classLink own ik cls :: Cond.initialized cls :: vx_atS own ic cls names, vx_ot w = true)
    (hU : vx_Zq Bundle.tN "UNASSIGNED_STACK" Bundle.steD A s s.heap) (hN : vx_Zq Bundle.tN "SUPPRESSED_SENTINEL" Bundle.listD A s s.heap) (hS : va_S A s.heap H locs) (hsize : ls.size = c.maxLocals)
    (d0 : decode cc pc = .ok (.new ik, 3)) (d3 : decode cc (pc + 3) = .ok (.dup, 1)) (d4 : decode cc (pc + 4) = .ok (.ldc_w is, 3)) (d7 : decode cc (pc + 7) = .ok (.invokespecial ic, 3)) (d10 : decode cc (pc + 10) = .ok (.athrow, 1))
    (hout : ∀ x ∈ c.exceptionTable.toList, covers x (pc + 10) = false)
    (hRframes : names.length + 3 < R.frames) (hRlocals : (rest.map fun v => v.category).sum + (13 * (names.length + 1) + 43) ≤ R.locals) (hRcells : cells + 1 ≤ R.cells) (hRslots : slots + 6 ≤ R.slots) (hlocks : meth.locks = false)
    (hx : ∀ t : State, s.vm.Alike t.vm → H.size ≤ t.heap.size → (∀ q : Nat, q < H.size → t.heap[q]? = H[q]?) → XC cls s t)
    (hf : ∀ z ∈ locs, free z.base) (hc : cells + 1 ≤ mc) (hs : slots + 6 ≤ ms) :
    W p l e R s m args below meth c H locs cells slots (vx_MQ below Qc XC args s mc ms free) (F0 m pc ls rest) := by
  intro T hT X
  have htr : e.platform.stackTraces = false := (show e.platform.stackTraces = l.stackTraces by rw [X.admits.platform]).trans hl
  have Y := vx_rebase X (R' := { frames := R.frames, locals := R.locals, cells := 1, slots := 6 }) (Nat.le_refl _) (Nat.le_refl _) hRcells hRslots
  obtain ⟨s', hA⟩ : ∃ z, z = (T.setVm s.vm).setFrames (.invoking m args :: below) := ⟨_, rfl⟩
  rw [← hA] at Y
  have hvm : s'.vm = s.vm := by rw [hA]; rfl
  have hhp : s'.heap = H := by rw [hA]; exact hT
  have hW0 : s.WarmedH s'.vm := by rw [hvm]; exact State.WarmedH.refl s
  have hat' : ∀ w ∈ vx_atS own ic cls names, w.before args s' = true := fun w hw => vx_ot_at hW0 hvm.symm (hgood w (List.mem_cons_of_mem _ (List.mem_cons_of_mem _ hw))) (hat w hw)
  have hk' : (Cond.classLink own ik cls).before args s' = true := vx_ot_at hW0 hvm.symm (hgood _ List.mem_cons_self) hk
  have hini' : (Cond.initialized cls).before args s' = true := vx_ot_at hW0 hvm.symm (hgood _ (List.mem_cons_of_mem _ List.mem_cons_self)) hini
  have hU' : vx_Zq Bundle.tN "UNASSIGNED_STACK" Bundle.steD A s' s'.heap := by rw [hhp]; exact vx_Zq.moved hW0.alike (hU.kept hS.2.1)
  have hN' : vx_Zq Bundle.tN "SUPPRESSED_SENTINEL" Bundle.listD A s' s'.heap := by rw [hhp]; exact vx_Zq.moved hW0.alike (hN.kept hS.2.1)
  have h : ∀ w ∈ Bundle.ownAtoms own ic cls names, w.before args s' = true := vx_own hat' (vx_isRefq hU'.1) (vx_isRefq hN'.1) hU'.2.word hN'.2.word
  have hown' : s'.vm.findClass own = some m.cls := by rw [hvm]; exact hown
  have hins : (Cond.instantiable cls 6).before args s' = true := h _ (by simp [Bundle.ownAtoms])
  obtain ⟨vm₁, cX, kX, hfX, hkX, -, -, X₁, st1⟩ := Y.newCold hexec (own := own) (C := cls) (index := ik) (n := 6) hown' hk' hins hini'
    (g := F0 m pc ls rest) rfl (by rw [hb]; exact d0) (Nat.le_refl _) (Nat.le_refl _)
  generalize hT1 : (T.setVm vm₁).pushCell { cls := cX, slots := kX.instanceTypes.map defaultValue, vm := .none } = T1 at X₁ st1
  have hcat : (Value.ref T.heap.size).category = 1 := rfl
  have hcellA : T1.heap[T.heap.size]? = some (freshCell cX kX) := by rw [← hT1]; exact State.heap_pushCell_size _ _
  have d3' : decode c.code (pc + 3) = .ok (.dup, 1) := by rw [hb]; exact d3
  have d4' : decode c.code (pc + 4) = .ok (.ldc_w is, 3) := by rw [hb]; exact d4
  have hstr' : vk_R own is text sa s' := vk_R.warm hW0 hstr
  obtain ⟨U, hsteps, hrun, hend, hW, hsame, ce, hce, hO⟩ := X₁.ctorThrowS hexec htr (own := own) (cls := cls) (names := names) (ic := ic) hown' hcls hnames h (fun x hx => nomatch hx) hfX hkX hcellA (by rw [hhp, hT]; exact Nat.le_refl _) (msg := .ref sa) rfl
    (g := { method := m, pc := pc + 7, locals := ls, stack := .ref sa :: .ref T.heap.size :: .ref T.heap.size :: rest, locked := none }) rfl hsize rfl rfl (rest := rest) rfl
    (by rw [hb]; exact d7) (by rw [hb]; exact d10) hout hRframes (by simp only [List.map_cons, List.sum_cons, hcat]; omega) hlocks
  obtain ⟨f1, f2⟩ := vx_frame hsame
  rw [hhp] at f1 f2
  have hWs : s.WarmedH U.vm := State.WarmedH.trans hW0 hW
  have hcl : s.vm.findClass cls = some ce.cls := by
    have h9 := hO.cls
    rw [hvm] at h9
    exact h9
  have hall : s.sameButNew ({ U with vm := s.vm } : State) locs mc ms := by
    subst hA
    obtain ⟨e1, e2⟩ := hsame
    rw [State.setFrames_setFrames] at e1
    have h2 : (T.setVm s.vm).sameButNew ({ U with vm := s.vm } : State) [] (0 + 1) (0 + 6) := ⟨e1, e2⟩
    have h3 := X.same.trans h2
    rw [List.append_nil] at h3
    exact h3.mono hc hs
  refine ⟨U, ?_, .threw T.heap.size, hrun, hend, Or.inr ⟨T.heap.size, rfl, cls, ce, locs, hx U hWs.alike f1 (fun q hq => f2 q hq (fun z hz => nomatch hz)), hce, hO.vm, hcl, hWs, hall, hf⟩⟩
  refine st1 _ ?_
  show Steps p.tables e below (T1.setTop { method := m, pc := pc + 3, locals := ls, stack := .ref T.heap.size :: rest, locked := none }) _
  jvm_step X₁.here [X₁.here.top, hexec, d3', Value.category]
  exact X₁.ldcStringW hexec (own := own) (text := text) (index := is) (a := sa) hown' hstr'.1 hstr'.2
    (g := { method := m, pc := pc + 4, locals := ls, stack := .ref T.heap.size :: .ref T.heap.size :: rest, locked := none }) rfl d4' _ hsteps
end Ends
section Bodies
variable {l : Launch}
theorem vx_ofW {y : MethodName} {ws ws' : List Cond} {rm : Room} {Pc : Array Value → State → Prop} {Qc : Array Value → State → Outcome → State → Prop} {XC : String → State → State → Prop} {mc ms : Nat} {free : Addr → Prop} {cc : ByteArray} {maxL : Nat} {ret : Option FieldType}
    (hy : plainName y.cls = true) (hw : ws = Cond.code y cc maxL ret :: ws')
    (body : ∀ p e s m args below meth c s₁, BodyLoose p l y (headSpec ws rm) cc maxL ret e s m args below meth c s₁ → c.maxLocals = maxL → (∀ x ∈ c.exceptionTable.toList, False) → Pc args s →
      W p l e (headSpec ws rm).room s m args below meth c s.heap [] 0 0 (vx_MQ below Qc XC args s mc ms free) (entryFrame m args maxL)) : vx_Met l y ws rm Pc Qc XC mc ms free := by
  refine MetFree.of_bodyS (code := cc) (maxLocals := maxL) (ret := ret) hy ?_ ?_
  · intro args s m h hn
    obtain ⟨meth, c, h1, h2, h3, h4, h5, h6, -, -⟩ := Cond.code_spec hn (atoms_spec (ws := ws) h _ (by rw [hw]; exact List.mem_cons_self))
    exact ⟨meth, c, h1, h2, h3, h4, h5, h6⟩
  · intro p e s m args below meth c s₁ B hml hP _
    have hh0 : s₁.heap = s.heap := by rw [B.state]; rfl
    have ht : ∀ x ∈ c.exceptionTable.toList, False := by
      obtain ⟨meth9, c9, h1, h2, -, -, -, -, h7, -⟩ := Cond.code_spec B.named (atoms_spec (ws := ws) B.pre _ (by rw [hw]; exact List.mem_cons_self))
      cases Option.some.inj (h1.symm.trans B.method)
      cases Option.some.inj (h2.symm.trans (Stand.of_body B).code)
      intro x hx
      rw [Array.isEmpty_iff.mp h7] at hx
      cases hx
    obtain ⟨t, a1, o, b1, b2, b3⟩ := body p e s m args below meth c s₁ B hml ht hP s₁ hh0 (Stand.of_body B)
    exact ⟨t, o, a1, b1, b2, b3⟩
/-- the table of a body with handlers -/
theorem vx_table {p : Program} {x y : MethodName} {S : Spec} {cc bytes : ByteArray} {maxL maxL' : Nat} {ret ret' : Option FieldType} {e : Env} {s s₁ : State} {m : MethodId} {args : Array Value} {below : List Frame} {meth : Method} {c : Code} {hh : List (Nat × Nat × Nat × Nat)}
    (B : BodyLoose p l y S cc maxL ret e s m args below meth c s₁) (h : (Cond.codeWith y bytes maxL' ret' hh).before args s = true) : c.exceptionTable.toList = tableOf hh := by
  obtain ⟨m9, meth9, c9, hn9, h1, h2, -, -, h6, -⟩ := Cond.codeWith_spec h
  cases Option.some.inj (hn9.symm.trans B.named)
  cases Option.some.inj (h1.symm.trans B.method)
  cases Option.some.inj (h2.symm.trans (Stand.of_body B).code)
  rw [← h6, table_eq]
end Bodies
end VXA
/-! ===== END ===== -/
/-! ===== BEGIN a static call of a method with an exception table ===== -/
section VXS
variable {p : Program} {l : Launch} {e : Env} {R : Room} {s : State} {m : MethodId} {args : Array Value} {below : List Frame} {meth : Method} {c : Code} {T : State} {H : Heap} {locs : List Loc} {cells slots : Nat}
abbrev vx_CSW (R : Room) (s : State) (args : Array Value) (own : String) (index : Nat) (y : MethodName) (bytes : ByteArray) (maxL : Nat) (ret : Option FieldType) (hh : List (Nat × Nat × Nat × Nat)) (ws : List Cond) (rm : Room) (mc ms n : Nat) : Prop :=
  (rm.cells = mc ∧ rm.slots = ms ∧ rm.frames + 1 ≤ R.frames ∧ 8 + (maxL + 11) + rm.locals ≤ R.locals ∧ (∀ w ∈ ws, ∀ (a' : Array Value) (U : State), s.WarmedH U.vm → w.before a' U = true) ∧ Cond.codeWith y bytes maxL ret hh ∈ ws) ∧
  (Cond.codeWith y bytes maxL ret hh).before args s = true ∧ (Cond.initialized y.cls).before args s = true ∧ (y.cls ≠ "java/lang/invoke/MethodHandle" ∧ y.cls ≠ "java/lang/invoke/VarHandle") ∧
  (∀ sig, parseMethodDescriptor y.desc = some sig → n = sig.parameters.length) ∧ (Cond.methodLink own index y).before args s = true ∧ (Cond.static y).before args s = true
theorem vx_cwSW {own : String} {index maxL mc ms : Nat} {y : MethodName} {bytes : ByteArray} {ret : Option FieldType} {hh : List (Nat × Nat × Nat × Nat)} {Ts ws ws' : List Cond} {rm : Room} (n : Nat) (ht : ∀ w ∈ Ts, w.before args s = true) (hT : GoodIn Ts (va_wsS own index y ws)) (hw : ws = Cond.codeWith y bytes maxL ret hh :: ws') (hrc : rm.cells = mc) (hrs : rm.slots = ms)
    (hd : y.cls ≠ "java/lang/invoke/MethodHandle" ∧ y.cls ≠ "java/lang/invoke/VarHandle" ∧ (parseMethodDescriptor y.desc).map (fun d => d.parameters.length) = some n) (hR : rm.frames + 1 ≤ R.frames ∧ 8 + (maxL + 11) + rm.locals ≤ R.locals) :
    vx_CSW R s args own index y bytes maxL ret hh ws rm mc ms n := by
  have ok : ∀ w ∈ va_wsS own index y ws, w.before args s = true := fun w h => ht w (hT w h).1
  have hG : GoodIn Ts ws := fun w h => hT w (by unfold va_wsS; exact List.mem_append_right _ h)
  have hc : Cond.codeWith y bytes maxL ret hh ∈ ws := by rw [hw]; exact List.mem_cons_self
  refine ⟨⟨hrc, hrs, hR.1, hR.2, pay_in ht hG, hc⟩, ht _ (hG _ hc).1, ok _ (by simp [va_wsS]), ⟨hd.1, hd.2.1⟩, fun sig h => ?_, ok _ (by simp [va_wsS]), ok _ (by simp [va_wsS])⟩
  have h2 := hd.2.2
  rw [h] at h2
  exact (Option.some.inj h2).symm
theorem vx_callSW (X : Stand p l e R s m args below meth c T locs cells slots) (hexec : p.tables.exec = Jvm.exec) {own : String} {index : Nat} {y : MethodName} {bytes : ByteArray} {maxL : Nat} {ret : Option FieldType} {hh : List (Nat × Nat × Nat × Nat)}
    (hown : s.vm.findClass own = some m.cls) (hlink : (Cond.methodLink own index y).before args s = true) (hstat : (Cond.static y).before args s = true) (hinit : (Cond.initialized y.cls).before args s = true)
    (hcode : (Cond.codeWith y bytes maxL ret hh).before args s = true) (hy : y.cls ≠ "java/lang/invoke/MethodHandle" ∧ y.cls ≠ "java/lang/invoke/VarHandle")
    {W9 : Nat} {Pre : Pt → Array Value → Prop} {Post : Pt → Array Value → Option Value → Pt → Prop} (hK : Back l R p e below s args y 3 W9 Pre Post)
    {g : JFrame} (hg : g.method = m) (hsize : g.locals.size = c.maxLocals) {argsL rest : List Value} (hlen : ∀ sig, parseMethodDescriptor y.desc = some sig → argsL.length = sig.parameters.length)
    (hstack : g.stack = argsL.reverse ++ rest) (hW : 2 * g.monitorRoom + (rest.map fun v => v.category).sum ≤ W9) (hdg : decode c.code g.pc = .ok (.invokestatic index, 3))
    (hpre : ∀ vm₁, s.WarmedH vm₁ → Pre ⟨T.setVm vm₁, locs, cells, slots⟩ argsL.toArray) :
    ∃ (v : Option Value) (vm₁ : Vm) (B : Pt), s.WarmedH vm₁ ∧ Stand p l e R s m args below meth c B.U B.locs B.cells B.slots ∧ Post ⟨T.setVm vm₁, locs, cells, slots⟩ argsL.toArray v B ∧
      ∀ target, Steps p.tables e below (B.U.setTop { g with pc := g.pc + 3, stack := v.toList ++ rest }) target → Steps p.tables e below (T.setTop g) target := by
  obtain ⟨mk, methM, cM, hnamed, hmethM, -, -, -, -, -, -, hsigM⟩ := Cond.codeWith_spec hcode
  have hstatic : methM.isStatic = true := Cond.static_spec hnamed hmethM hstat
  obtain ⟨kP, hkP, -⟩ := className_of_methodNamed hnamed
  have hinitP : kP.init = .initialized := Cond.initialized_spec (findClass_of_methodNamed hnamed) hkP hinit
  obtain ⟨vm₁, X₁, hstep₁⟩ := X.invokestatic hexec hown hlink hnamed hmethM hstatic hkP hinitP hy (g := g) hg (argsL := argsL) (rest := rest) (hlen _ hsigM) hstack hdg
  obtain ⟨v, B, X', hpost, hsteps⟩ := hK m meth c ⟨T.setVm vm₁, locs, cells, slots⟩ { g with stack := rest } (.invokestatic index) mk argsL.toArray X₁ hg hsize hdg hW (X₁.named hnamed) (hpre vm₁ X₁.warmed)
  exact ⟨v, vm₁, B, X₁.warmed, X', hpost, fun target h => hstep₁ _ fun acts => by rw [doInvoke_state]; exact hsteps.trans h⟩
theorem vx_runSW {y : MethodName} {bytes cc : ByteArray} {maxL nL mc ms n index : Nat} {ret : Option FieldType} {hh : List (Nat × Nat × Nat × Nat)} {ws : List Cond} {rm : Room} {Pc : Array Value → State → Prop} {Qc : Array Value → State → Outcome → State → Prop} {free : Addr → Prop} {Ts : List Cond} {own : String} {As rest : List Value} {g : JFrame}
    (S : CallFix p m c cc nL s args Ts own) (hM : Met l y ws rm Pc Qc mc ms free) (cw : vx_CSW R s args own index y bytes maxL ret hh ws rm mc ms n) (hp : PreS s H Pc As)
    (hg : g.method = m) (hn : As.length = n) (hsize : g.locals.size = nL) (hstack : g.stack = As.reverse ++ rest) (hW : 2 * g.monitorRoom + (rest.map fun v => v.category).sum ≤ 8) (hdg : decode cc g.pc = .ok (.invokestatic index, 3)) (hf : cells + mc ≤ R.cells ∧ slots + ms ≤ R.slots) :
    va_Run p l e R s m args below meth c H locs cells slots mc ms g rest (Qc As.toArray) (free) := by
  obtain ⟨⟨hrc, hrs, hfr, hlo, hws, hcw⟩, hcode, hini, hy, hlen, hl, hstt⟩ := cw
  have hK : Back l R p e below s args y 3 8 (PreOf R mc ms Pc) (PostOf Qc mc ms free) := va_backW (hh := hh) (bytes := bytes) (maxL := maxL) (ret := ret) hM hp.1 hrc hrs hfr hlo hws hcw (fun a' U hW => word_at hW (Or.inl (by first | rfl | simp [Cond.onTables, Cond.keeps, Cond.steady])) hini)
  obtain ⟨hx, hb, hml, ho, -⟩ := S
  intro T hT X
  obtain ⟨v, vm₁, ⟨U', l2, c2, s2⟩, hW₁, X', ⟨g', mk, t, L, e1, e2, hq, h1, hL, h2, h3⟩, st⟩ := vx_callSW X hx (hh := hh) (bytes := bytes) (maxL := maxL) (ret := ret) ho hl hstt hini hcode hy hK hg (hsize.trans hml.symm) (argsL := As) (rest := rest) (fun sig h => hn.trans (hlen sig h)) hstack hW (by rw [hb]; exact hdg)
    (fun vm₁ hW₁ => ⟨hf.1, hf.2, hp.2 (T.setVm vm₁) hT hW₁⟩)
  dsimp only [Pt.U, Pt.locs, Pt.cells, Pt.slots] at X' e1 e2 h1 h2 h3 st
  subst h1; subst h2; subst h3
  exact ⟨v, (T.setVm vm₁).calling g' mk As.toArray, t, U', L, hT, X', hL, e1, e2, hq, st⟩
/-- not caught here, past rows that name other classes: it goes on to the caller -/
theorem vx_outP {p : Program} {l : Launch} {e : Env} {R : Room} {s : State} {m : MethodId} {args : Array Value} {below : List Frame} {meth : Method} {c : Code} {H : Heap} {locs : List Loc} {cells slots : Nat} {free : Addr → Prop} {ls : Array Slot} {rest : List Value} {Qc : Array Value → State → Outcome → State → Prop} {XC : String → State → State → Prop}
    {pc : Nat} {own E : String} {ce : Cell} {q : Addr} {mc ms : Nat} (hown : s.vm.findClass own = some m.cls) (hlocks : meth.locks = false)
    (hpass : ∀ z ∈ c.exceptionTable.toList, covers z pc = false ∨ (z.catchType ≠ 0 ∧ ∃ nm : String, (Cond.classLink own z.catchType nm).before args s = true ∧ va_Nc E nm s)) (hcell : H[q]? = some ce) (hv : ce.vm = .none) (hcl : s.vm.findClass E = some ce.cls)
    (hx : ∀ t : State, t.heap = H → s.vm.Alike t.vm → XC E s t) (hf : ∀ z ∈ locs, free z.base) (hc : cells ≤ mc) (hs : slots ≤ ms) :
    vx_W p l e R s m args below meth c H locs cells slots (vx_MQ below Qc XC args s mc ms free) (F0 m pc ls rest) q := by
  intro T hT X
  have hpl : e.platform.magicAccessors = ({} : Platform).magicAccessors := by rw [X.admits.platform]
  obtain ⟨vm', hW', X', st⟩ := X.outThrough hlocks q (g := F0 m pc ls rest) rfl rfl rfl (cell := ce) (by rw [hT]; exact hcell) (by rw [hv]; rfl)
    (by obtain ⟨k9, h9, -⟩ := Vm.findClass_spec hcl; exact ⟨k9, h9⟩) (fun z hz => by
      rcases hpass z hz with h | ⟨hz0, nm, hl1, hn1⟩
      · exact Or.inl h
      · obtain ⟨c6, hc6, hcl6⟩ := Cond.classLink_spec hown hl1 e.platform hpl
        obtain ⟨a8, b8, h1, h2, h3⟩ := hn1
        cases Option.some.inj (h1.symm.trans hcl)
        cases Option.some.inj (h2.symm.trans hc6)
        exact Or.inr ⟨hz0, _, hcl6, h3⟩)
  obtain ⟨g₀, hfr⟩ := X'.frames_eq
  have hcell9 : ((T.setVm vm').setFrames (.throwing q :: below)).heap[q]? = some ce := by
    show T.heap[q]? = some ce
    rw [hT]; exact hcell
  have hend : Ended ((T.setVm vm').setFrames (.throwing q :: below)) below (.threw q) := State.frames_setFrames _ (State.cur_lt_of_frames hfr)
  refine ⟨(T.setVm vm').setFrames (.throwing q :: below), ?_, .threw q, X'.here.running, hend, Or.inr ⟨q, rfl, E, ce, locs, hx _ hT (X'.ends _).1.alike, hcell9, hv, hcl, (X'.ends _).1, (X'.ends _).2.mono hc hs, hf⟩⟩
  rw [X.pushThrowing_eq]
  exact st
/-- a thing of a world lies in the heap -/
theorem vx_lt {D : va_G} {cl : List vw_C} {ws : va_W} {H1 : Heap} (h : va_P D cl ws H1) {k : Nat} {q : Nat × va_E} (hk : ws[k]? = some q) : q.1 < H1.size := (h k q hk).lt
end VXS
/-! ===== END ===== -/
/-! ===== BEGIN methods with a table of their own: called by a name, returning or throwing ===== -/
section VXH
/-! vx_backW, vx_callVX, vx_callSX, vx_callVW, vx_runVW, vx_runVX, vx_runSX, vx_ofWH follow the same proofs as their sisters above (Free/Laws.lean, Shelf42/LK1.lean); vx_outP calls Shelf42/NT130.lean (outThrough). -/
section
variable {l : Launch} {R : Room} {p : Program} {e : Env} {below : List Frame} {s : State} {sargs : Array Value} {y : MethodName} {len W9 : Nat}
theorem vx_backW {ws : List Cond} {rm : Room} {Pc : Array Value → State → Prop} {Qc : Array Value → State → Outcome → State → Prop} {XC : String → State → State → Prop} {mc ms : Nat} {free : Addr → Prop} {bytes : ByteArray} {maxL : Nat} {ret : Option FieldType} {hh : List (Nat × Nat × Nat × Nat)}
    (hM : vx_Met l y ws rm Pc Qc XC mc ms free) (hblind : FrameBlind Pc) (hrc : rm.cells = mc) (hrs : rm.slots = ms)
    (hframes : rm.frames + 1 ≤ R.frames) (hlocals : W9 + (maxL + 11) + rm.locals ≤ R.locals)
    (hws : ∀ w ∈ ws, ∀ a' U, s.WarmedH U.vm → w.before a' U = true) (hcode : Cond.codeWith y bytes maxL ret hh ∈ ws) (hinit : ∀ a' U, s.WarmedH U.vm → (Cond.initialized y.cls).before a' U = true) :
    vx_Back l R p e below s sargs y len W9 (PreOf R mc ms Pc) (PostOf Qc mc ms free) (vx_Post XC mc ms free) := by
  intro m meth c A g ig mk a X hg hsize hdg hW hn hp
  have h1 : (headSpec ws rm).pre.before a A.U = true := atoms_intro fun w hw => hws w hw _ _ X.warmed
  have h2 : (Cond.codeWith y bytes maxL ret hh).before a A.U = true := hws _ hcode _ _ X.warmed
  have h3 : (Cond.initialized y.cls).before a A.U = true := hinit _ _ X.warmed
  have h4 : A.cells + (headSpec ws rm).room.cells ≤ R.cells := by rw [show (headSpec ws rm).room.cells = mc from hrc]; exact hp.1
  have h5 : A.slots + (headSpec ws rm).room.slots ≤ R.slots := by rw [show (headSpec ws rm).room.slots = ms from hrs]; exact hp.2.1
  have hPc : Pc a (A.U.calling g mk a) := hblind _ _ _ _ hp.2.2
  obtain ⟨U, Ls, c0, s0⟩ := A
  dsimp only [Pt.U, Pt.locs, Pt.cells, Pt.slots] at h1 h2 h3 h4 h5 X hn hPc ⊢
  obtain ⟨m9, methY, cY, hn9, hmY, hcY, -, hlY, -⟩ := Cond.codeWith_spec h2
  cases Option.some.inj (hn9.symm.trans hn)
  obtain ⟨kY, hkY, -⟩ := className_of_methodNamed hn
  have hinitY : kY.init = .initialized := Cond.initialized_spec (findClass_of_methodNamed hn) hkY h3
  have h : At U g.method c below := by rw [hg]; exact X.here
  have hlocals9 : W9 + (maxL + 11) + (headSpec ws rm).room.locals ≤ R.locals := hlocals
  have happ : (headSpec ws rm).appliesLoose y e.platform (U.calling g mk a) = true :=
    Spec.appliesLoose_calling (g := g) h hdg hn hkY hinitY
      (X.room_calling (g := g) (R' := (headSpec ws rm).room) hsize hmY hcY hframes (by rw [hlY]; omega) h4 h5) h1
  obtain ⟨mid, hmid⟩ := h.above
  have hfr : (U.setTop g).frames = (.java g :: mid) ++ below := by rw [State.frames_setTop' g h.top, hmid]; rfl
  obtain ⟨o, s₂, hsteps, -, hend, hq⟩ := Steps.callFree hM p X.admits X.cas X.clock (acts := []) hfr happ hPc trivial
  have hq' : vx_Q Qc XC mc ms free a (U.calling g mk a) o s₂ := hq
  rw [State.frames_setTop' g h.top] at hend
  obtain ⟨g₀, hg0⟩ := Option.isSome_iff_exists.mp h.top
  obtain ⟨r, hr⟩ := State.topJava?_eq_some.mp hg0
  have hr' : (({ U with heap := s₂.heap, slotsUsed := s₂.slotsUsed } : State).setVm s₂.vm).frames = .java g₀ :: r := hr
  rcases hq' with ⟨hqc, L, hfe, hL⟩ | ⟨q, rfl, E, ce, L, hx, hce, hcv, hcl, hW₂, hsm, hL⟩
  · obtain ⟨⟨v, rfl⟩, hW₂, e2, q2, q3, q4, q5, q6⟩ := id hfe
    have e3 : s₂ = ({ (U.calling g mk a).setFrames s₂.frames with heap := s₂.heap, slotsUsed := s₂.slotsUsed } : State).setVm s₂.vm := by
      have : s₂ = ({ s₂ with vm := (U.calling g mk a).vm } : State).setVm s₂.vm := rfl
      rw [e2] at this
      exact this
    obtain ⟨c₂, i₂, len₂, hc₂, hd₂, hf₂⟩ := hend
    have hW' : U.WarmedH s₂.vm := hW₂
    have hcc : c₂ = c := by
      have h1 : s₂.code? g.method = U.code? g.method := by
        rw [State.code?_eq, State.code?_eq, hW'.alike.method?]
      exact Option.some.inj (hc₂.symm.trans (h1.trans h.code))
    subst hcc
    have hlen : len₂ = len := by rw [hdg] at hd₂; cases hd₂; rfl
    subst hlen
    have hs₂ : s₂ = (({ U with heap := s₂.heap, slotsUsed := s₂.slotsUsed } : State).setVm s₂.vm).setTop { g with pc := g.pc + len₂, stack := v.toList ++ g.stack } := by
      refine e3.trans ?_
      rw [hf₂, State.calling_eq h.top, State.setFrames_setFrames, State.setTop_of_frames _ hr', hr]
      rfl
    have hsame : U.sameButNew ({ U with heap := s₂.heap, slotsUsed := s₂.slotsUsed } : State) L mc ms := by
      refine ⟨?_, q2, q3, q4, q5, q6⟩
      obtain ⟨t, ht, -⟩ := State.frames_cons hr
      show ({ U with heap := s₂.heap, slotsUsed := s₂.slotsUsed } : State) = { U.setFrames U.frames with heap := s₂.heap, slotsUsed := s₂.slotsUsed }
      rw [State.setFrames_self ht]
    subst hg
    refine Or.inl ⟨v, ⟨(({ U with heap := s₂.heap, slotsUsed := s₂.slotsUsed } : State).setVm s₂.vm), Ls ++ L, c0 + mc, s0 + ms⟩,
      ⟨X.admits, X.cas, X.clock, X.frames, X.room, X.hears, X.method, X.code, (X.here.setHeapUsed s₂.heap s₂.slotsUsed).setVm hW'.alike, X.tail, State.WarmedH.trans X.warmed hW', X.limits, X.bytes, X.same.trans (hsame.setVm s.vm)⟩,
      ⟨g, mk, s₂, L, rfl, rfl, hqc, rfl, hL, rfl, rfl⟩, ?_⟩
    show Steps p.tables e below _ ((({ U with heap := s₂.heap, slotsUsed := s₂.slotsUsed } : State).setVm s₂.vm).setTop { g with pc := g.pc + len₂, stack := v.toList ++ g.stack })
    rw [← hs₂]
    exact hsteps
  · obtain ⟨e2, q2, q3, q4, q5, q6⟩ := id hsm
    have e3 : s₂ = ({ (U.calling g mk a).setFrames s₂.frames with heap := s₂.heap, slotsUsed := s₂.slotsUsed } : State).setVm s₂.vm := by
      have : s₂ = ({ s₂ with vm := (U.calling g mk a).vm } : State).setVm s₂.vm := rfl
      rw [e2] at this
      exact this
    have hf₂ : s₂.frames = .throwing q :: .java g :: U.frames.tail := hend
    have hW' : U.WarmedH s₂.vm := hW₂
    have hs₂ : s₂ = ((({ U with heap := s₂.heap, slotsUsed := s₂.slotsUsed } : State).setVm s₂.vm).setTop g).pushFrame (.throwing q) := by
      refine e3.trans ?_
      rw [hf₂, State.calling_eq h.top, State.setFrames_setFrames, State.pushFrame, State.frames_setTop _ hr', State.setTop_of_frames _ hr', State.setFrames_setFrames, hr]
      rfl
    have hsame : U.sameButNew ({ U with heap := s₂.heap, slotsUsed := s₂.slotsUsed } : State) L mc ms := by
      refine ⟨?_, q2, q3, q4, q5, q6⟩
      obtain ⟨t, ht, -⟩ := State.frames_cons hr
      show ({ U with heap := s₂.heap, slotsUsed := s₂.slotsUsed } : State) = { U.setFrames U.frames with heap := s₂.heap, slotsUsed := s₂.slotsUsed }
      rw [State.setFrames_self ht]
    subst hg
    refine Or.inr ⟨q, ⟨(({ U with heap := s₂.heap, slotsUsed := s₂.slotsUsed } : State).setVm s₂.vm), Ls ++ L, c0 + mc, s0 + ms⟩,
      ⟨X.admits, X.cas, X.clock, X.frames, X.room, X.hears, X.method, X.code, (X.here.setHeapUsed s₂.heap s₂.slotsUsed).setVm hW'.alike, X.tail, State.WarmedH.trans X.warmed hW', X.limits, X.bytes, X.same.trans (hsame.setVm s.vm)⟩,
      ⟨g, mk, s₂, L, E, ce, rfl, rfl, hx, hce, hcv, hcl, rfl, hL, rfl, rfl⟩, ?_⟩
    show Steps p.tables e below _ (((({ U with heap := s₂.heap, slotsUsed := s₂.slotsUsed } : State).setVm s₂.vm).setTop g).pushFrame (.throwing q))
    rw [← hs₂]
    exact hsteps
end
variable {p : Program} {l : Launch} {e : Env} {R : Room} {s : State} {m : MethodId} {args : Array Value} {below : List Frame} {meth : Method} {c : Code} {T : State} {H : Heap} {locs : List Loc} {cells slots : Nat}
theorem vx_callVX (X : Stand p l e R s m args below meth c T locs cells slots) (hexec : p.tables.exec = Jvm.exec) {own C : String} {index : Nat} {y : MethodName} {bytes : ByteArray} {maxL : Nat} {ret : Option FieldType} {hh : List (Nat × Nat × Nat × Nat)}
    (hown : s.vm.findClass own = some m.cls) (hlink : (Cond.methodLink own index y).before args s = true) (hinst : (Cond.instanceMethod y).before args s = true) (hsel : (Cond.selects C y y).before args s = true)
    (hcode : (Cond.codeWith y bytes maxL ret hh).before args s = true) (hy : y.cls ≠ "java/lang/invoke/MethodHandle" ∧ y.cls ≠ "java/lang/invoke/VarHandle")
    {W9 : Nat} {Pre : Pt → Array Value → Prop} {Post : Pt → Array Value → Option Value → Pt → Prop} {PostX : Pt → Array Value → Addr → Pt → Prop} (hK : vx_Back l R p e below s args y 3 W9 Pre Post PostX)
    {b : Addr} {cellB : Cell} (hcell : T.heap[b]? = some cellB) (hobj : cellB.vm.isStatics = false) (hcls : s.vm.findClass C = some cellB.cls)
    {g : JFrame} (hg : g.method = m) (hsize : g.locals.size = c.maxLocals) {argsL rest : List Value} (hlen : ∀ sig, parseMethodDescriptor y.desc = some sig → argsL.length = sig.parameters.length)
    (hstack : g.stack = argsL.reverse ++ .ref b :: rest) (hW : 2 * g.monitorRoom + (rest.map fun v => v.category).sum ≤ W9) (hdg : decode c.code g.pc = .ok (.invokevirtual index, 3))
    (hpre : ∀ vm₁, s.WarmedH vm₁ → Pre ⟨T.setVm vm₁, locs, cells, slots⟩ (Value.ref b :: argsL).toArray) :
    (∃ (v : Option Value) (vm₁ : Vm) (B : Pt), s.WarmedH vm₁ ∧ Stand p l e R s m args below meth c B.U B.locs B.cells B.slots ∧ Post ⟨T.setVm vm₁, locs, cells, slots⟩ (Value.ref b :: argsL).toArray v B ∧
      ∀ target, Steps p.tables e below (B.U.setTop { g with pc := g.pc + 3, stack := v.toList ++ rest }) target → Steps p.tables e below (T.setTop g) target) ∨
    (∃ (q : Addr) (vm₁ : Vm) (B : Pt), s.WarmedH vm₁ ∧ Stand p l e R s m args below meth c B.U B.locs B.cells B.slots ∧ PostX ⟨T.setVm vm₁, locs, cells, slots⟩ (Value.ref b :: argsL).toArray q B ∧
      Steps p.tables e below (T.setTop g) ((B.U.setTop { g with stack := rest }).pushFrame (.throwing q))) := by
  obtain ⟨mk, methM, hnamed, hmethM, hstM, habM⟩ := Cond.instanceMethod_spec hinst
  obtain ⟨m8, methM', cM, hn8, hmethM', -, -, -, -, -, -, hsigM⟩ := Cond.codeWith_spec hcode
  cases Option.some.inj (hn8.symm.trans hnamed)
  cases hmethM.symm.trans hmethM'
  obtain ⟨c2, r2, m2, q1, q2, q3, q4, kP, hkP, hkPi⟩ := Cond.selects_spec hsel
  cases hcls.symm.trans q1
  cases (State.methodFound?_of_named hnamed hy).symm.trans q2
  cases hnamed.symm.trans q3
  have hselP : selectMethod e.platform s.vm cellB.cls mk = .method mk := by rw [Launch.admits_selectMethod X.admits]; exact q4
  obtain ⟨vm₁, X₁, hstep₁⟩ := X.invokevirtual hexec hown hlink hnamed hmethM hstM hkP hkPi hy (a := b) (cell := cellB) hcell
    (fun z h => by rw [h] at hobj; cases hobj) hselP hmethM habM hkP hkPi (g := g) hg (argsL := argsL) (rest := rest) (hlen _ hsigM) hstack hdg
  rcases hK m meth c ⟨T.setVm vm₁, locs, cells, slots⟩ { g with stack := rest } (.invokevirtual index) mk (Value.ref b :: argsL).toArray X₁ hg hsize hdg hW (X₁.named hnamed) (hpre vm₁ X₁.warmed) with ⟨v, B, X', hpost, hsteps⟩ | ⟨q, B, X', hpost, hsteps⟩
  · exact Or.inl ⟨v, vm₁, B, X₁.warmed, X', hpost, fun target h => hstep₁ _ fun acts => by rw [doInvoke_state]; exact hsteps.trans h⟩
  · exact Or.inr ⟨q, vm₁, B, X₁.warmed, X', hpost, hstep₁ _ fun acts => by rw [doInvoke_state]; exact hsteps⟩
theorem vx_callSX (X : Stand p l e R s m args below meth c T locs cells slots) (hexec : p.tables.exec = Jvm.exec) {own : String} {index : Nat} {y : MethodName} {bytes : ByteArray} {maxL : Nat} {ret : Option FieldType} {hh : List (Nat × Nat × Nat × Nat)}
    (hown : s.vm.findClass own = some m.cls) (hlink : (Cond.methodLink own index y).before args s = true) (hstat : (Cond.static y).before args s = true) (hinit : (Cond.initialized y.cls).before args s = true)
    (hcode : (Cond.codeWith y bytes maxL ret hh).before args s = true) (hy : y.cls ≠ "java/lang/invoke/MethodHandle" ∧ y.cls ≠ "java/lang/invoke/VarHandle")
    {W9 : Nat} {Pre : Pt → Array Value → Prop} {Post : Pt → Array Value → Option Value → Pt → Prop} {PostX : Pt → Array Value → Addr → Pt → Prop} (hK : vx_Back l R p e below s args y 3 W9 Pre Post PostX)
    {g : JFrame} (hg : g.method = m) (hsize : g.locals.size = c.maxLocals) {argsL rest : List Value} (hlen : ∀ sig, parseMethodDescriptor y.desc = some sig → argsL.length = sig.parameters.length)
    (hstack : g.stack = argsL.reverse ++ rest) (hW : 2 * g.monitorRoom + (rest.map fun v => v.category).sum ≤ W9) (hdg : decode c.code g.pc = .ok (.invokestatic index, 3))
    (hpre : ∀ vm₁, s.WarmedH vm₁ → Pre ⟨T.setVm vm₁, locs, cells, slots⟩ argsL.toArray) :
    (∃ (v : Option Value) (vm₁ : Vm) (B : Pt), s.WarmedH vm₁ ∧ Stand p l e R s m args below meth c B.U B.locs B.cells B.slots ∧ Post ⟨T.setVm vm₁, locs, cells, slots⟩ argsL.toArray v B ∧
      ∀ target, Steps p.tables e below (B.U.setTop { g with pc := g.pc + 3, stack := v.toList ++ rest }) target → Steps p.tables e below (T.setTop g) target) ∨
    (∃ (q : Addr) (vm₁ : Vm) (B : Pt), s.WarmedH vm₁ ∧ Stand p l e R s m args below meth c B.U B.locs B.cells B.slots ∧ PostX ⟨T.setVm vm₁, locs, cells, slots⟩ argsL.toArray q B ∧
      Steps p.tables e below (T.setTop g) ((B.U.setTop { g with stack := rest }).pushFrame (.throwing q))) := by
  obtain ⟨mk, methM, cM, hnamed, hmethM, -, -, -, -, -, -, hsigM⟩ := Cond.codeWith_spec hcode
  have hstatic : methM.isStatic = true := Cond.static_spec hnamed hmethM hstat
  obtain ⟨kP, hkP, -⟩ := className_of_methodNamed hnamed
  have hinitP : kP.init = .initialized := Cond.initialized_spec (findClass_of_methodNamed hnamed) hkP hinit
  obtain ⟨vm₁, X₁, hstep₁⟩ := X.invokestatic hexec hown hlink hnamed hmethM hstatic hkP hinitP hy (g := g) hg (argsL := argsL) (rest := rest) (hlen _ hsigM) hstack hdg
  rcases hK m meth c ⟨T.setVm vm₁, locs, cells, slots⟩ { g with stack := rest } (.invokestatic index) mk argsL.toArray X₁ hg hsize hdg hW (X₁.named hnamed) (hpre vm₁ X₁.warmed) with ⟨v, B, X', hpost, hsteps⟩ | ⟨q, B, X', hpost, hsteps⟩
  · exact Or.inl ⟨v, vm₁, B, X₁.warmed, X', hpost, fun target h => hstep₁ _ fun acts => by rw [doInvoke_state]; exact hsteps.trans h⟩
  · exact Or.inr ⟨q, vm₁, B, X₁.warmed, X', hpost, hstep₁ _ fun acts => by rw [doInvoke_state]; exact hsteps⟩
theorem vx_callVW (X : Stand p l e R s m args below meth c T locs cells slots) (hexec : p.tables.exec = Jvm.exec) {own C : String} {index : Nat} {y : MethodName} {bytes : ByteArray} {maxL : Nat} {ret : Option FieldType} {hh : List (Nat × Nat × Nat × Nat)}
    (hown : s.vm.findClass own = some m.cls) (hlink : (Cond.methodLink own index y).before args s = true) (hinst : (Cond.instanceMethod y).before args s = true) (hsel : (Cond.selects C y y).before args s = true)
    (hcode : (Cond.codeWith y bytes maxL ret hh).before args s = true) (hy : y.cls ≠ "java/lang/invoke/MethodHandle" ∧ y.cls ≠ "java/lang/invoke/VarHandle")
    {W9 : Nat} {Pre : Pt → Array Value → Prop} {Post : Pt → Array Value → Option Value → Pt → Prop} (hK : Back l R p e below s args y 3 W9 Pre Post)
    {b : Addr} {cellB : Cell} (hcell : T.heap[b]? = some cellB) (hobj : cellB.vm.isStatics = false) (hcls : s.vm.findClass C = some cellB.cls)
    {g : JFrame} (hg : g.method = m) (hsize : g.locals.size = c.maxLocals) {argsL rest : List Value} (hlen : ∀ sig, parseMethodDescriptor y.desc = some sig → argsL.length = sig.parameters.length)
    (hstack : g.stack = argsL.reverse ++ .ref b :: rest) (hW : 2 * g.monitorRoom + (rest.map fun v => v.category).sum ≤ W9) (hdg : decode c.code g.pc = .ok (.invokevirtual index, 3))
    (hpre : ∀ vm₁, s.WarmedH vm₁ → Pre ⟨T.setVm vm₁, locs, cells, slots⟩ (Value.ref b :: argsL).toArray) :
    ∃ (v : Option Value) (vm₁ : Vm) (B : Pt), s.WarmedH vm₁ ∧ Stand p l e R s m args below meth c B.U B.locs B.cells B.slots ∧ Post ⟨T.setVm vm₁, locs, cells, slots⟩ (Value.ref b :: argsL).toArray v B ∧
      ∀ target, Steps p.tables e below (B.U.setTop { g with pc := g.pc + 3, stack := v.toList ++ rest }) target → Steps p.tables e below (T.setTop g) target := by
  obtain ⟨mk, methM, hnamed, hmethM, hstM, habM⟩ := Cond.instanceMethod_spec hinst
  obtain ⟨m8, methM', cM, hn8, hmethM', -, -, -, -, -, -, hsigM⟩ := Cond.codeWith_spec hcode
  cases Option.some.inj (hn8.symm.trans hnamed)
  cases hmethM.symm.trans hmethM'
  obtain ⟨c2, r2, m2, q1, q2, q3, q4, kP, hkP, hkPi⟩ := Cond.selects_spec hsel
  cases hcls.symm.trans q1
  cases (State.methodFound?_of_named hnamed hy).symm.trans q2
  cases hnamed.symm.trans q3
  have hselP : selectMethod e.platform s.vm cellB.cls mk = .method mk := by rw [Launch.admits_selectMethod X.admits]; exact q4
  obtain ⟨vm₁, X₁, hstep₁⟩ := X.invokevirtual hexec hown hlink hnamed hmethM hstM hkP hkPi hy (a := b) (cell := cellB) hcell
    (fun z h => by rw [h] at hobj; cases hobj) hselP hmethM habM hkP hkPi (g := g) hg (argsL := argsL) (rest := rest) (hlen _ hsigM) hstack hdg
  obtain ⟨v, B, X', hpost, hsteps⟩ := hK m meth c ⟨T.setVm vm₁, locs, cells, slots⟩ { g with stack := rest } (.invokevirtual index) mk (Value.ref b :: argsL).toArray X₁ hg hsize hdg hW (X₁.named hnamed) (hpre vm₁ X₁.warmed)
  exact ⟨v, vm₁, B, X₁.warmed, X', hpost, fun target h => hstep₁ _ fun acts => by rw [doInvoke_state]; exact hsteps.trans h⟩
abbrev vx_CVW (R : Room) (s : State) (args : Array Value) (own C : String) (index : Nat) (y : MethodName) (bytes : ByteArray) (maxL : Nat) (ret : Option FieldType) (hh : List (Nat × Nat × Nat × Nat)) (ws : List Cond) (rm : Room) (mc ms n : Nat) : Prop :=
  (rm.cells = mc ∧ rm.slots = ms ∧ rm.frames + 1 ≤ R.frames ∧ 8 + (maxL + 11) + rm.locals ≤ R.locals ∧ (∀ w ∈ ws, ∀ (a' : Array Value) (U : State), s.WarmedH U.vm → w.before a' U = true) ∧ Cond.codeWith y bytes maxL ret hh ∈ ws) ∧
  (Cond.codeWith y bytes maxL ret hh).before args s = true ∧ (Cond.initialized y.cls).before args s = true ∧ (y.cls ≠ "java/lang/invoke/MethodHandle" ∧ y.cls ≠ "java/lang/invoke/VarHandle") ∧
  (∀ sig, parseMethodDescriptor y.desc = some sig → n = sig.parameters.length) ∧ (Cond.methodLink own index y).before args s = true ∧ (Cond.instanceMethod y).before args s = true ∧ (Cond.selects C y y).before args s = true
theorem vx_cwVW {own C : String} {index maxL mc ms : Nat} {y : MethodName} {bytes : ByteArray} {ret : Option FieldType} {hh : List (Nat × Nat × Nat × Nat)} {Ts ws ws' : List Cond} {rm : Room} (n : Nat) (ht : ∀ w ∈ Ts, w.before args s = true) (hT : GoodIn Ts (wsV own index C y ws)) (hw : ws = Cond.codeWith y bytes maxL ret hh :: ws') (hrc : rm.cells = mc) (hrs : rm.slots = ms)
    (hd : y.cls = C ∧ y.cls ≠ "java/lang/invoke/MethodHandle" ∧ y.cls ≠ "java/lang/invoke/VarHandle" ∧ (parseMethodDescriptor y.desc).map (fun d => d.parameters.length) = some n) (hR : rm.frames + 1 ≤ R.frames ∧ 8 + (maxL + 11) + rm.locals ≤ R.locals) :
    vx_CVW R s args own C index y bytes maxL ret hh ws rm mc ms n := by
  obtain ⟨hC, hd⟩ := hd
  subst hC
  have ok : ∀ w ∈ wsV own index y.cls y ws, w.before args s = true := fun w h => ht w (hT w h).1
  have hG : GoodIn Ts ws := fun w h => hT w (by unfold wsV; exact List.mem_append_right _ h)
  have hc : Cond.codeWith y bytes maxL ret hh ∈ ws := by rw [hw]; exact List.mem_cons_self
  refine ⟨⟨hrc, hrs, hR.1, hR.2, pay_in ht hG, hc⟩, ht _ (hG _ hc).1, ok _ (by simp [wsV]), ⟨hd.1, hd.2.1⟩, fun sig h => ?_, ok _ (by simp [wsV]), ok _ (by simp [wsV]), ok _ (by simp [wsV])⟩
  have h2 := hd.2.2
  rw [h] at h2
  exact (Option.some.inj h2).symm
theorem vx_runVW {y : MethodName} {bytes cc : ByteArray} {maxL nL mc ms n index : Nat} {ret : Option FieldType} {hh : List (Nat × Nat × Nat × Nat)} {ws : List Cond} {rm : Room} {Pc : Array Value → State → Prop} {Qc : Array Value → State → Outcome → State → Prop} {free : Addr → Prop} {Ts : List Cond} {own C : String} {b : Addr} {As rest : List Value} {g : JFrame}
    (S : CallFix p m c cc nL s args Ts own) (hM : Met l y ws rm Pc Qc mc ms free) (cw : vx_CVW R s args own C index y bytes maxL ret hh ws rm mc ms n) (hp : PreV s H C b Pc As)
    (hg : g.method = m) (hn : As.length = n) (hsize : g.locals.size = nL) (hstack : g.stack = As.reverse ++ .ref b :: rest) (hW : 2 * g.monitorRoom + (rest.map fun v => v.category).sum ≤ 8) (hdg : decode cc g.pc = .ok (.invokevirtual index, 3)) (hf : cells + mc ≤ R.cells ∧ slots + ms ≤ R.slots) :
    va_Run p l e R s m args below meth c H locs cells slots mc ms g rest (Qc (Value.ref b :: As).toArray) free := by
  obtain ⟨⟨hrc, hrs, hfr, hlo, hws, hcw⟩, hcode, hini, hy, hlen, hl, hin, hse⟩ := cw
  have hK : Back l R p e below s args y 3 8 (PreOf R mc ms Pc) (PostOf Qc mc ms free) := va_backW (hh := hh) (bytes := bytes) (maxL := maxL) (ret := ret) hM hp.1 hrc hrs hfr hlo hws hcw (fun a' U hW => word_at hW (Or.inl (by first | rfl | simp [Cond.onTables, Cond.keeps, Cond.steady])) hini)
  obtain ⟨hx, hb, hml, ho, -⟩ := S
  obtain ⟨-, ⟨cellB, hcB, hoB, hclB⟩, hPc⟩ := hp
  intro T hT X
  obtain ⟨v, vm₁, ⟨U', l2, c2, s2⟩, hW₁, X', ⟨g', mk, t, L, e1, e2, hq, h1, hL, h2, h3⟩, st⟩ := vx_callVW X hx (C := C) (hh := hh) (bytes := bytes) (maxL := maxL) (ret := ret) ho hl hin hse hcode hy hK (by rw [hT]; exact hcB) hoB hclB hg (hsize.trans hml.symm) (argsL := As) (rest := rest) (fun sig h => hn.trans (hlen sig h)) hstack hW (by rw [hb]; exact hdg)
    (fun vm₁ hW₁ => ⟨hf.1, hf.2, hPc (T.setVm vm₁) hT hW₁⟩)
  dsimp only [Pt.U, Pt.locs, Pt.cells, Pt.slots] at X' e1 e2 h1 h2 h3 st
  subst h1; subst h2; subst h3
  exact ⟨v, (T.setVm vm₁).calling g' mk (Value.ref b :: As).toArray, t, U', L, hT, X', hL, e1, e2, hq, st⟩
section
variable {y : MethodName} {bytes cc : ByteArray} {maxL nL mc ms n index : Nat} {ret : Option FieldType} {ws : List Cond} {rm : Room} {Pc : Array Value → State → Prop} {Qc : Array Value → State → Outcome → State → Prop} {XC : String → State → State → Prop} {free : Addr → Prop} {Ts : List Cond} {own C : String} {b : Addr} {As rest : List Value} {g : JFrame}
theorem vx_runVX {hh : List (Nat × Nat × Nat × Nat)} (S : CallFix p m c cc nL s args Ts own) (hM : vx_Met l y ws rm Pc Qc XC mc ms free) (cw : vx_CVW R s args own C index y bytes maxL ret hh ws rm mc ms n) (hp : PreV s H C b Pc As)
    (hg : g.method = m) (hn : As.length = n) (hsize : g.locals.size = nL) (hstack : g.stack = As.reverse ++ .ref b :: rest) (hW : 2 * g.monitorRoom + (rest.map fun v => v.category).sum ≤ 8) (hdg : decode cc g.pc = .ok (.invokevirtual index, 3)) (hf : cells + mc ≤ R.cells ∧ slots + ms ≤ R.slots) :
    vx_Run p l e R s m args below meth c H locs cells slots mc ms g rest (Qc (Value.ref b :: As).toArray) XC free := by
  obtain ⟨⟨hrc, hrs, hfr, hlo, hws, hcw⟩, hcode, hini, hy, hlen, hl, hin, hse⟩ := cw
  have hK : vx_Back l R p e below s args y 3 8 (PreOf R mc ms Pc) (PostOf Qc mc ms free) (vx_Post XC mc ms free) := vx_backW (hh := hh) (bytes := bytes) (maxL := maxL) (ret := ret) hM hp.1 hrc hrs hfr hlo hws hcw (fun a' U hW => word_at hW (Or.inl (by first | rfl | simp [Cond.onTables, Cond.keeps, Cond.steady])) hini)
  obtain ⟨hx, hb, hml, ho, -⟩ := S
  obtain ⟨-, ⟨cellB, hcB, hoB, hclB⟩, hPc⟩ := hp
  intro T hT X
  rcases vx_callVX X hx (C := C) (hh := hh) (bytes := bytes) (maxL := maxL) (ret := ret) ho hl hin hse hcode hy hK (by rw [hT]; exact hcB) hoB hclB hg (hsize.trans hml.symm) (argsL := As) (rest := rest) (fun sig h => hn.trans (hlen sig h)) hstack hW (by rw [hb]; exact hdg)
    (fun vm₁ hW₁ => ⟨hf.1, hf.2, hPc (T.setVm vm₁) hT hW₁⟩) with ⟨v, vm₁, ⟨U', l2, c2, s2⟩, hW₁, X', ⟨g', mk, t, L, e1, e2, hq, h1, hL, h2, h3⟩, st⟩ | ⟨q, vm₁, ⟨U', l2, c2, s2⟩, hW₁, X', ⟨g', mk, t, L, E, ce, e1, e2, hq, hce, hcv, hcl, h1, hL, h2, h3⟩, st⟩
  · dsimp only [Pt.U, Pt.locs, Pt.cells, Pt.slots] at X' e1 e2 h1 h2 h3 st
    subst h1; subst h2; subst h3
    exact Or.inl ⟨v, (T.setVm vm₁).calling g' mk (Value.ref b :: As).toArray, t, U', L, hT, X', hL, e1, e2, hq, st⟩
  · dsimp only [Pt.U, Pt.locs, Pt.cells, Pt.slots] at X' e1 e2 h1 h2 h3 st hcl
    subst h1; subst h2; subst h3
    exact Or.inr ⟨q, (T.setVm vm₁).calling g' mk (Value.ref b :: As).toArray, t, U', L, E, ce, hT, X', hL, e1, e2, hq, hce, hcv, vx_cls hW₁ hcl, st⟩
theorem vx_runSX {hh : List (Nat × Nat × Nat × Nat)} (S : CallFix p m c cc nL s args Ts own) (hM : vx_Met l y ws rm Pc Qc XC mc ms free) (cw : vx_CSW R s args own index y bytes maxL ret hh ws rm mc ms n) (hp : PreS s H Pc As)
    (hg : g.method = m) (hn : As.length = n) (hsize : g.locals.size = nL) (hstack : g.stack = As.reverse ++ rest) (hW : 2 * g.monitorRoom + (rest.map fun v => v.category).sum ≤ 8) (hdg : decode cc g.pc = .ok (.invokestatic index, 3)) (hf : cells + mc ≤ R.cells ∧ slots + ms ≤ R.slots) :
    vx_Run p l e R s m args below meth c H locs cells slots mc ms g rest (Qc As.toArray) XC free := by
  obtain ⟨⟨hrc, hrs, hfr, hlo, hws, hcw⟩, hcode, hini, hy, hlen, hl, hstt⟩ := cw
  have hK : vx_Back l R p e below s args y 3 8 (PreOf R mc ms Pc) (PostOf Qc mc ms free) (vx_Post XC mc ms free) := vx_backW (hh := hh) (bytes := bytes) (maxL := maxL) (ret := ret) hM hp.1 hrc hrs hfr hlo hws hcw (fun a' U hW => word_at hW (Or.inl (by first | rfl | simp [Cond.onTables, Cond.keeps, Cond.steady])) hini)
  obtain ⟨hx, hb, hml, ho, -⟩ := S
  intro T hT X
  rcases vx_callSX X hx (hh := hh) (bytes := bytes) (maxL := maxL) (ret := ret) ho hl hstt hini hcode hy hK hg (hsize.trans hml.symm) (argsL := As) (rest := rest) (fun sig h => hn.trans (hlen sig h)) hstack hW (by rw [hb]; exact hdg)
    (fun vm₁ hW₁ => ⟨hf.1, hf.2, hp.2 (T.setVm vm₁) hT hW₁⟩) with ⟨v, vm₁, ⟨U', l2, c2, s2⟩, hW₁, X', ⟨g', mk, t, L, e1, e2, hq, h1, hL, h2, h3⟩, st⟩ | ⟨q, vm₁, ⟨U', l2, c2, s2⟩, hW₁, X', ⟨g', mk, t, L, E, ce, e1, e2, hq, hce, hcv, hcl, h1, hL, h2, h3⟩, st⟩
  · dsimp only [Pt.U, Pt.locs, Pt.cells, Pt.slots] at X' e1 e2 h1 h2 h3 st
    subst h1; subst h2; subst h3
    exact Or.inl ⟨v, (T.setVm vm₁).calling g' mk As.toArray, t, U', L, hT, X', hL, e1, e2, hq, st⟩
  · dsimp only [Pt.U, Pt.locs, Pt.cells, Pt.slots] at X' e1 e2 h1 h2 h3 st hcl
    subst h1; subst h2; subst h3
    exact Or.inr ⟨q, (T.setVm vm₁).calling g' mk As.toArray, t, U', L, E, ce, hT, X', hL, e1, e2, hq, hce, hcv, vx_cls hW₁ hcl, st⟩
end
end VXH
theorem vx_ofWH {l : Launch} {y : MethodName} {ws ws' : List Cond} {rm : Room} {Pc : Array Value → State → Prop} {Qc : Array Value → State → Outcome → State → Prop} {XC : String → State → State → Prop} {mc ms : Nat} {free : Addr → Prop} {cc : ByteArray} {maxL : Nat} {ret : Option FieldType} {hh : List (Nat × Nat × Nat × Nat)}
    (hy : plainName y.cls = true) (hw : ws = Cond.codeWith y cc maxL ret hh :: ws')
    (body : ∀ p e s m args below meth c s₁, BodyLoose p l y (headSpec ws rm) cc maxL ret e s m args below meth c s₁ → c.maxLocals = maxL → Pc args s →
      W p l e (headSpec ws rm).room s m args below meth c s.heap [] 0 0 (vx_MQ below Qc XC args s mc ms free) (entryFrame m args maxL)) : vx_Met l y ws rm Pc Qc XC mc ms free := by
  refine MetFree.of_bodyS (code := cc) (maxLocals := maxL) (ret := ret) hy ?_ ?_
  · intro args s m h hn
    obtain ⟨m9, meth, c, hn9, h1, h2, h3, h4, -, h5, h6, -⟩ := Cond.codeWith_spec (atoms_spec (ws := ws) h _ (by rw [hw]; exact List.mem_cons_self))
    cases hn.symm.trans hn9
    exact ⟨meth, c, h1, h2, h3, h4, h5, h6⟩
  · intro p e s m args below meth c s₁ B hml hP _
    have hh0 : s₁.heap = s.heap := by rw [B.state]; rfl
    obtain ⟨t, a1, o, b1, b2, b3⟩ := body p e s m args below meth c s₁ B hml hP s₁ hh0 (Stand.of_body B)
    exact ⟨t, o, a1, b1, b2, b3⟩
/-! ===== END ===== -/
/-! ===== BEGIN what the machine throws by itself, no traces kept ===== -/
section VXM
set_option maxHeartbeats 1000000 in
/-- the machine throws cls with the message text, no traces kept: from its note over the frame g to 'throwing' over the same frame (follows the proofs of Stand.vmThrowsMessage, Shelf/KitTracedVmS.lean, and Stand.throwsMessageColdBareV, StandMessageColdV.lean, without the step out of the frame) -/
theorem vx_vmAt {p : Program} {l : Launch} {e : Env} {R : Room} {s : State} {m₀ : MethodId} {args : Array Value} {below : List Frame} {meth : Method} {c : Code} {W : State} {locs : List Loc} {cells slots : Nat}
    (X : Stand p l e R s m₀ args below meth c W locs cells slots) (hexec : p.tables.exec = Jvm.exec) (htr : e.platform.stackTraces = false) {cls : String} {names : List String} {text : String}
    (hcls : Bundle.fit cls = true) (hnames : ∀ n ∈ names, Bundle.fit n = true) (hsoe : (cls == "java/lang/StackOverflowError") = false) (hoom : (cls == "java/lang/OutOfMemoryError") = false)
    (h : ∀ a ∈ Bundle.messageArmAtoms cls names, a.before args s = true)
    (hlocs : ∀ x ∈ locs, ∀ cell, s.heap[x.base]? = some cell → cell.vm.isStatics = false)
    (htext : (text == notModelled) = false) (hlimit : ¬ (stringBytes (stringToUtf16 text)).size > e.platform.arrayLengthLimit) (hheap : ¬ (stringBytes (stringToUtf16 text)).size * componentBytes .byte > e.platform.maxHeapBytes)
    {g : JFrame} (hg : g.method = m₀) (hsize : g.locals.size = c.maxLocals)
    (hRframes : names.length + 4 < R.frames) (hRlocals : 2 * g.monitorRoom + (g.stack.map fun v => v.category).sum + 10240 ≤ R.locals) (hshort : 13 * names.length + 55 ≤ 10240)
    (hRcells : cells + 3 ≤ R.cells) (hRslots : slots + ((stringBytes (stringToUtf16 text)).size + 4 + 6) ≤ R.slots) (hlocks : meth.locks = false) :
    ∃ (S : State) (q : Addr) (ce : Cell), (∀ target, Steps p.tables e below ((S.setTop g).pushFrame (.throwing q)) target → Steps p.tables e below ((W.setTop g).pushFrame (.throwNew cls (some text) none)) target) ∧
      Stand p l e R s m₀ args below meth c S locs (cells + 3) (slots + ((stringBytes (stringToUtf16 text)).size + 4 + 6)) ∧ S.heap[q]? = some ce ∧ s.vm.findClass cls = some ce.cls ∧ ce.vm = .none := by
  have howns : e.platform.frameOwnsMonitors = true := by rw [X.admits.platform]
  have hfin : e.platform.finalization = false := by rw [X.admits.platform]
  have hpl : e.platform.magicAccessors = ({} : Platform).magicAccessors := by rw [X.admits.platform]
  have a : ∀ x, x ∈ Bundle.messageArmAtoms cls names → x.holds args s none s [] = true := fun x hx => h x hx
  obtain ⟨T, Z0, L, -, Y⟩ := ThrowableC.of_atoms (args := args) howns hfin hpl (fun x hx => h x (by simp [Bundle.messageArmAtoms, hx]))
  obtain ⟨Z, M, LZ, LM, hnZ⟩ := Init0T.ofS_atoms (args := args) hpl L Y (fun x hx => h x (by simp [Bundle.messageArmAtoms, hx]))
  obtain ⟨P1, Ps, hlen, L1, hL, hP1m, hlink1, hlink⟩ := Bundle.chainS (args := args) hpl hnZ names cls hcls hnames (fun x hx => h x (by simp [Bundle.messageArmAtoms, hx]))
  obtain ⟨Zs, LZs, hn4, hfitv, hfitc⟩ := StringT.of_atoms (args := args) (fun x hx => h x (by simp [Bundle.messageArmAtoms, hx]))
  have hfound : s.vm.findClass cls = some P1.m.cls := findClass_of_methodNamed hP1m
  obtain ⟨c1, kX, hc1, hk, hord, -, -, hn6⟩ := Cond.instantiable_spec (a (.instantiable cls 6) (by simp [Bundle.messageArmAtoms]))
  cases Option.some.inj (hc1.symm.trans hfound)
  have hinit := Cond.initialized_spec hfound hk (a (.initialized cls) (by simp [Bundle.messageArmAtoms]))
  have hctor : kX.findMethod "<init>" "(Ljava/lang/String;)V" = some P1.m.idx := findMethod_of_methodNamed hP1m hk
  have hsel0 : selectMethod e.platform s.vm P1.m.cls T.fill0 = .method T.fill0 := by
    obtain ⟨c2, r2, m2, q1, q2, q3, q4, -⟩ := Cond.selects_spec (a (.selects cls Bundle.tFill0 Bundle.tFill0) (by simp [Bundle.messageArmAtoms]))
    cases Option.some.inj (q1.symm.trans hfound)
    cases Option.some.inj (q2.symm.trans (State.methodFound?_of_named Y.fill0 (by decide)))
    cases Option.some.inj (q3.symm.trans Y.fill0)
    rw [Launch.admits_selectMethod X.admits]; exact q4
  have hselF : selectMethod e.platform s.vm P1.m.cls T.fill = .method T.fill := by
    obtain ⟨c2, r2, m2, q1, q2, q3, q4, -⟩ := Cond.selects_spec (a (.selects cls Bundle.tFill Bundle.tFill) (by simp [Bundle.messageArmAtoms]))
    cases Option.some.inj (q1.symm.trans hfound)
    cases Option.some.inj (q2.symm.trans (State.methodFound?_of_named Y.fill (by decide)))
    cases Option.some.inj (q3.symm.trans Y.fill)
    rw [Launch.admits_selectMethod X.admits]; exact q4
  obtain ⟨cellS0, hcS0, hiss⟩ := Y.statics
  obtain ⟨u0, hu0⟩ := Cond.staticRefV Y.unassigned L.unassignedStatic L.statics hcS0 hiss (a (.isRef (.static Bundle.tN "UNASSIGNED_STACK" Bundle.steD)) (by simp [Bundle.messageArmAtoms]))
  obtain ⟨sen, hsen⟩ := Cond.staticRefV Y.sentinel L.sentinelStatic L.statics hcS0 hiss (a (.isRef (.static Bundle.tN "SUPPRESSED_SENTINEL" Bundle.listD)) (by simp [Bundle.messageArmAtoms]))
  obtain ⟨ci198, i198, fB, hk198, hg198, ha198, hsB, -, hnB, htB, hffB⟩ := Cond.ownField (t := .object "java/lang/Object") Y.found L.cls (by decide +kernel) (a (.fieldLink Bundle.tN 198 Bundle.tN "backtrace" "Ljava/lang/Object;") (by simp [Bundle.messageArmAtoms])) (a (.lays Bundle.tN Bundle.tN "backtrace" "Ljava/lang/Object;") (by simp [Bundle.messageArmAtoms])) e.platform hpl
  obtain ⟨cellS, hcS', heS, -, hkeep⟩ := X.same.2.2.2.2.2 T.aS cellS0 hcS0
  have hcellS : W.heap[T.aS]? = some cellS := hcS'
  have hout' : ∀ i, (⟨T.aS, i⟩ : Loc) ∉ locs := fun i hmem => by
    have := hlocs _ hmem cellS0 hcS0
    rw [hiss] at this; cases this
  have hknownS : cellS.vm ≠ .unknown := by
    rw [heS]; intro hu
    rw [show cellS0.vm = .unknown from hu] at hiss
    cases hiss
  have hvU : cellS.slots[T.fUnassigned.slot]? = some u0.v := by rw [hkeep _ (hout' _)]; exact hu0
  have hvSen : cellS.slots[T.fSentinel.slot]? = some sen.v := by rw [hkeep _ (hout' _)]; exact hsen
  obtain ⟨iM, hffM⟩ := Y.msg
  obtain ⟨tyC, dC, hdC, hdnC⟩ := Cond.laysAt hfound hk Y.cause (a (.lays cls Bundle.tN "cause" "Ljava/lang/Throwable;") (by simp [Bundle.messageArmAtoms]))
  obtain ⟨tyS, dS, hdS, hdnS⟩ := Cond.laysAt hfound hk Y.stack (a (.lays cls Bundle.tN "stackTrace" Bundle.steD) (by simp [Bundle.messageArmAtoms]))
  obtain ⟨tyP, dP, hdP, hdnP⟩ := Cond.laysAt hfound hk Y.supp (a (.lays cls Bundle.tN "suppressedExceptions" Bundle.listD) (by simp [Bundle.messageArmAtoms]))
  obtain ⟨tyM, dM, hdM, hdnM⟩ := Cond.laysAt hfound hk hffM (a (.lays cls Bundle.tN "detailMessage" "Ljava/lang/String;") (by simp [Bundle.messageArmAtoms]))
  obtain ⟨tyB, dB, hdB, hdnB⟩ := Cond.laysAt hfound hk hffB (a (.lays cls Bundle.tN "backtrace" "Ljava/lang/Object;") (by simp [Bundle.messageArmAtoms]))
  have bC := Cond.laysApart hdB hdC hdnB hdnC (by rw [hnB, Y.causeName]; decide)
  have bS := Cond.laysApart hdB hdS hdnB hdnS (by rw [hnB, Y.stackName]; decide)
  have bP := Cond.laysApart hdB hdP hdnB hdnP (by rw [hnB, Y.suppName]; decide)
  have hbk : ((preparedCellV T.toThrowableT (freshCell P1.m.cls kX) (W.heap.size + 2) u0 sen).withEntry W.cur).slots[fB.slot]? = some .null := by
    have := fresh_default (c := P1.m.cls) tyB
    rw [htB] at this
    simpa [preparedCellV, Cell.setSlot, Cell.withEntry, Array.getElem?_setIfInBounds, bC, bS, bP, bC.symm, bS.symm, bP.symm, defaultValue] using this
  have tkC := Takes.of_laid (v := .ref (W.heap.size + 2)) hk hord tyC (by rw [Y.causeType]; rfl)
  have tkS := Takes.of_laid (v := u0.v) hk hord tyS (by rw [Y.stackType]; exact fits_refV_array _ u0)
  have tkP := Takes.of_laid (v := sen.v) hk hord tyP (by rw [Y.suppType]; exact fits_refV_object _ sen)
  have tkM := Takes.of_laid (v := .ref (W.heap.size + 1)) hk hord tyM (by rw [Y.msgType]; rfl)
  have hskip : SkipFacts T e.platform s (fun u => u) u0 ((preparedCellV T.toThrowableT (freshCell P1.m.cls kX) (W.heap.size + 2) u0 sen).withEntry W.cur) := ⟨{ ci198 := ci198, i198 := i198, fBack := fB }, ⟨hk198, hg198, ha198, hsB⟩, hbk, fun _ _ => rfl⟩
  have h0 : At W g.method c below := by rw [hg]; exact X.here
  obtain ⟨hbeyond, hfreeW⟩ := X.vmMayThrow hsize (.throwNew cls (some text) none) (fun f hf => by cases hf) rfl hRlocals
  have hfr' : W.frames.length + Ps.length + 4 < (e.platform.stackLimits W.me).1 := by have := X.framesAbove hRframes; omega
  have hwd' : (stackUse (.java g :: W.frames.tail)).2 + 13 * Ps.length + 55 ≤ (e.platform.stackLimits W.me).2 := by have := X.stackAbove hsize (K := 13 * Ps.length + 55) (by omega); omega
  have hslots : W.slotsUsed + (stringBytes (stringToUtf16 text)).size + Zs.kS.instanceTypes.size + kX.instanceTypes.size ≤ e.platform.maxSlots := by
    have := X.slotsAbove hRslots
    rw [hn4, hn6]
    omega
  obtain ⟨vm', hW', st⟩ := Steps.vmThrowsMessageColdByV p (s₀ := s) (S := W) (g := g) h0 hexec T L Z LZ M LM X.warmed (t := W.cur) rfl Zs LZs P1 L1 Ps hL hlink1 hlink hsoe hoom hfound hk hinit hord hctor
    (Launch.admits_hotImplicitExceptions X.admits) hbeyond hfreeW htext hlimit hheap (X.cellsAbove hRcells) hslots (hfitv _) (hfitc _)
    (Nn := fun u => u) heapOnly_id (fun _ _ => rfl) (fun _ => rfl) (fun u x y => setCell_twice _ _ _ _) (fun _ => Nat.le_refl _) (cN := ((preparedCellV T.toThrowableT (freshCell P1.m.cls kX) (W.heap.size + 2) u0 sen).withEntry W.cur))
    hsel0 hcellS hknownS hvU tkS (fun _ hu => hu) (fun _ hu => hu) rfl rfl rfl (by simp [preparedCellV, Cell.setSlot, Cell.withEntry]) hskip (fun _ _ hA hW _ hroom _ hrest => L.nativeOff p htr hA hW hroom hrest) hselF hvSen tkC tkP tkM Y.objLocals rfl hfr' hwd'
  rw [plainBareV_eq T.toThrowableT (W.heap.size + 2) u0 sen (.ref (W.heap.size + 1)) W.cur rfl rfl] at st
  obtain ⟨-, -, w3, w4, -, -, -⟩ := withThrown_facts e.platform W Zs text P1.m.cls kX
  have X3 := ((X.pushed (bytesOf Zs.cB (stringToUtf16 text))).pushed (stringAt Zs.cS Zs.kS Zs.fv Zs.fc (stringToUtf16 text) W.heap.size)).pushed (freshCell P1.m.cls kX)
  rw [← withString_eq] at X3
  have X4 := X3.noted hW'
  have ha : (W.heap.size + 2) < ((withThrown W Zs text P1.m.cls kX).setVm vm').heap.size := by show _ < (withThrown W Zs text P1.m.cls kX).heap.size; rw [w3]; omega
  have hcell : ((withThrown W Zs text P1.m.cls kX).setVm vm').heap[(W.heap.size + 2)]? = some (freshCell P1.m.cls kX) := w4
  have X5 := ((((X4.stored hcell T.fCause.slot (.ref (W.heap.size + 2))).storedAgain ha T.fStack.slot u0.v).storedAgain ha T.fSupp.slot sen.v).storedAgain ha T.fStack.slot u0.v).storedAgain ha T.fMsg.slot (.ref (W.heap.size + 1))
  obtain ⟨g₁, hfrM⟩ := X5.frames_eq
  have hU : ((((withThrown W Zs text P1.m.cls kX).setVm vm').setCell (W.heap.size + 2) (plainBareV T.toThrowableT (freshCell P1.m.cls kX) (W.heap.size + 2) u0 sen (.ref (W.heap.size + 1)))).setTop g).pushFrame (.throwing (W.heap.size + 2)) = (((withThrown W Zs text P1.m.cls kX).setVm vm').setCell (W.heap.size + 2) (plainBareV T.toThrowableT (freshCell P1.m.cls kX) (W.heap.size + 2) u0 sen (.ref (W.heap.size + 1)))).setFrames (.throwing (W.heap.size + 2) :: .java g :: below) := by
    rw [State.pushFrame, State.frames_setTop _ hfrM, State.setTop_of_frames _ hfrM, State.setFrames_setFrames]
  have b1 : (bytesOf Zs.cB (stringToUtf16 text)).slots.size = (stringBytes (stringToUtf16 text)).size := by
    rw [(Cell.writeAll_facts _ _).2.2]; simp [bytes0]
  have b2 : (stringAt Zs.cS Zs.kS Zs.fv Zs.fc (stringToUtf16 text) W.heap.size).slots.size = 4 := by simp [string0, Cell.setSlot, hn4]
  have b3 : (freshCell P1.m.cls kX).slots.size = 6 := by simp [hn6]
  rw [b1, b2, b3] at X5
  have e9 : slots + (stringBytes (stringToUtf16 text)).size + 4 + 6 = slots + ((stringBytes (stringToUtf16 text)).size + 4 + 6) := by omega
  rw [e9] at X5
  simp only [List.append_assoc, List.cons_append, List.nil_append] at X5
  refine ⟨((withThrown W Zs text P1.m.cls kX).setVm vm').setCell (W.heap.size + 2) (plainBareV T.toThrowableT (freshCell P1.m.cls kX) (W.heap.size + 2) u0 sen (.ref (W.heap.size + 1))), W.heap.size + 2, _, fun target ht => st _ (by rw [X.tail, ← hU]; exact ht),
    X5.forget (fun y hy => ?_), heapAt_setCell_self _ ha, hfound, rfl⟩
  simp only [List.mem_cons, List.not_mem_nil, or_false] at hy
  have hge : s.heap.size ≤ W.heap.size := X.same.2.1
  rcases hy with rfl | rfl | rfl | rfl | rfl <;> exact Nat.le_trans hge (Nat.le_add_right _ 2)
set_option maxHeartbeats 1000000 in
/-- the machine throws NullPointerException, no traces kept: from its note over the frame g to 'throwing' over the same frame (follows the proof of Stand.vmThrowsNpe, Shelf42/KT2.lean; throwsNpeColdBareVAt, Shelf42/NT91.lean, called) -/
theorem vx_npeAt {p : Program} {l : Launch} {e : Env} {R : Room} {s : State} {m₀ : MethodId} {args : Array Value} {below : List Frame} {meth : Method} {c : Code} {W : State} {locs : List Loc} {cells slots : Nat}
    (X : Stand p l e R s m₀ args below meth c W locs cells slots) (hexec : p.tables.exec = Jvm.exec) (htr : e.platform.stackTraces = false) {n : Nat}
    (h : ∀ a ∈ Bundle.npeArmAtoms n, a.before args s = true)
    (hlocs : ∀ x ∈ locs, ∀ cell, s.heap[x.base]? = some cell → cell.vm.isStatics = false)
    {g : JFrame} (hg : g.method = m₀) (hsize : g.locals.size = c.maxLocals)
    (hRframes : 7 < R.frames) (hRlocals : 2 * g.monitorRoom + (g.stack.map fun v => v.category).sum + 10240 ≤ R.locals)
    (hRcells : cells + 1 ≤ R.cells) (hRslots : slots + n ≤ R.slots) (hlocks : meth.locks = false) :
    ∃ (S : State) (q : Addr) (ce : Cell), (∀ target, Steps p.tables e below ((S.setTop g).pushFrame (.throwing q)) target → Steps p.tables e below ((W.setTop g).pushFrame (.throwNew "java/lang/NullPointerException" none none)) target) ∧
      Stand p l e R s m₀ args below meth c S locs (cells + 1) (slots + n) ∧ S.heap[q]? = some ce ∧ s.vm.findClass "java/lang/NullPointerException" = some ce.cls ∧ ce.vm = .none := by
  have howns : e.platform.frameOwnsMonitors = true := by rw [X.admits.platform]
  have hfin : e.platform.finalization = false := by rw [X.admits.platform]
  have hpl : e.platform.magicAccessors = ({} : Platform).magicAccessors := by rw [X.admits.platform]
  have hpl2 : e.platform.arrayCloneIsPublic = true := by rw [X.admits.platform]
  have a' : ∀ x, x ∈ Bundle.npeArmAtoms n → x.holds args s none s [] = true := fun x hx => h x hx
  obtain ⟨T, Z, L, LZ, Y⟩ := ThrowableC.of_atoms (args := args) howns hfin hpl (fun x hx => h x (by simp [Bundle.npeArmAtoms, hx]))
  obtain ⟨N, LN, hcN, hnNF, hordN, hffS⟩ := NpeC.of_atoms (args := args) hpl hpl2 L Y (fun x hx => h x (by simp [Bundle.npeArmAtoms, hx]))
  obtain ⟨P1, L1, hP1m, hP1s⟩ := PassC.of_atoms (args := args) (s := s) hpl (X := Bundle.nN) (Y := Bundle.rN) (by decide) (by decide) LibCode.NullPointerException.Init0.at_0 LibCode.NullPointerException.Init0.at_1 LibCode.NullPointerException.Init0.at_4 (fun x hx => h x (by simp [Bundle.npeArmAtoms, hx]))
  obtain ⟨PR, LR, hPRm, hPRs⟩ := PassC.of_atoms (args := args) (s := s) hpl (X := Bundle.rN) (Y := Bundle.eN) (by decide) (by decide) LibCode.RuntimeException.Init0.at_0 LibCode.RuntimeException.Init0.at_1 LibCode.RuntimeException.Init0.at_4 (fun x hx => h x (by simp [Bundle.npeArmAtoms, hx]))
  obtain ⟨PE, LEx, hPEm, hPEs⟩ := PassC.of_atoms (args := args) (s := s) hpl (X := Bundle.eN) (Y := Bundle.tN) (by decide) (by decide) LibCode.Exception.Init0.at_0 LibCode.Exception.Init0.at_1 LibCode.Exception.Init0.at_4 (fun x hx => h x (by simp [Bundle.npeArmAtoms, hx]))
  have hfound : s.vm.findClass Bundle.nN = some P1.m.cls := findClass_of_methodNamed hP1m
  have ecls : N.cN = P1.m.cls := Option.some.inj (hcN.symm.trans hfound)
  have hk : s.vm.classes[P1.m.cls]? = some N.kN := by rw [← ecls]; exact LN.cls
  have hinit := Cond.initialized_spec hfound hk (a' (.initialized Bundle.nN) (by simp [Bundle.npeArmAtoms]))
  have hctor : N.kN.findMethod "<init>" "()V" = some P1.m.idx := findMethod_of_methodNamed hP1m hk
  obtain ⟨c1, k1, hc1, hk1, -, -, -, hn⟩ := Cond.instantiable_spec (a' (.instantiable Bundle.nN n) (by simp [Bundle.npeArmAtoms]))
  cases Option.some.inj (hc1.symm.trans hfound)
  cases Option.some.inj (hk1.symm.trans hk)
  have hfsz : (freshCell P1.m.cls N.kN).slots.size = n := by simp [hn]
  have hlink1 : P1.sup = PR.m := Option.some.inj (hP1s.symm.trans hPRm)
  have hlinkR : PR.sup = PE.m := Option.some.inj (hPRs.symm.trans hPEm)
  have hlinkE : PE.sup = Z.m T.toThrowableT := Option.some.inj (hPEs.symm.trans Y.init0)
  have hLs : ∀ P, P ∈ [PR, PE] → P.Links0 e.platform s := fun P hP => by
    simp only [List.mem_cons, List.not_mem_nil, or_false] at hP
    rcases hP with rfl | rfl
    · exact LR
    · exact LEx
  have hsel0 : selectMethod e.platform s.vm P1.m.cls T.fill0 = .method T.fill0 := by
    obtain ⟨c2, r2, m2, q1, q2, q3, q4, -⟩ := Cond.selects_spec (a' (.selects Bundle.nN Bundle.tFill0 Bundle.tFill0) (by simp [Bundle.npeArmAtoms]))
    cases Option.some.inj (q1.symm.trans hfound)
    cases Option.some.inj (q2.symm.trans (State.methodFound?_of_named Y.fill0 (by decide)))
    cases Option.some.inj (q3.symm.trans Y.fill0)
    rw [Launch.admits_selectMethod X.admits]; exact q4
  have hselF : selectMethod e.platform s.vm P1.m.cls T.fill = .method N.fill := by
    obtain ⟨c2, r2, m2, q1, q2, q3, q4, -⟩ := Cond.selects_spec (a' (.selects Bundle.nN Bundle.tFill Bundle.nFill) (by simp [Bundle.npeArmAtoms]))
    cases Option.some.inj (q1.symm.trans hfound)
    cases Option.some.inj (q2.symm.trans (State.methodFound?_of_named Y.fill (by decide)))
    cases Option.some.inj (q3.symm.trans hnNF)
    rw [Launch.admits_selectMethod X.admits]; exact q4
  obtain ⟨cellS0, hcS0, hiss⟩ := Y.statics
  obtain ⟨u0, hu0⟩ := Cond.staticRefV Y.unassigned L.unassignedStatic L.statics hcS0 hiss (a' (.isRef (.static Bundle.tN "UNASSIGNED_STACK" Bundle.steD)) (by simp [Bundle.npeArmAtoms]))
  obtain ⟨sen, hsen⟩ := Cond.staticRefV Y.sentinel L.sentinelStatic L.statics hcS0 hiss (a' (.isRef (.static Bundle.tN "SUPPRESSED_SENTINEL" Bundle.listD)) (by simp [Bundle.npeArmAtoms]))
  obtain ⟨ci198, i198, fB, hk198, hg198, ha198, hsB, -, hnB, htB, hffB⟩ := Cond.ownField (t := .object "java/lang/Object") Y.found L.cls (by decide +kernel) (a' (.fieldLink Bundle.tN 198 Bundle.tN "backtrace" Bundle.objD) (by simp [Bundle.npeArmAtoms])) (a' (.lays Bundle.tN Bundle.tN "backtrace" Bundle.objD) (by simp [Bundle.npeArmAtoms])) e.platform hpl
  obtain ⟨cellS, hcS', heS, -, hkeep⟩ := X.same.2.2.2.2.2 T.aS cellS0 hcS0
  have hcellS : W.heap[T.aS]? = some cellS := hcS'
  have hout' : ∀ i, (⟨T.aS, i⟩ : Loc) ∉ locs := fun i hmem => by
    have := hlocs _ hmem cellS0 hcS0
    rw [hiss] at this; cases this
  have hknownS : cellS.vm ≠ .unknown := by
    rw [heS]; intro hu
    rw [show cellS0.vm = .unknown from hu] at hiss
    cases hiss
  have hvU : cellS.slots[T.fUnassigned.slot]? = some u0.v := by rw [hkeep _ (hout' _)]; exact hu0
  have hvSen : cellS.slots[T.fSentinel.slot]? = some sen.v := by rw [hkeep _ (hout' _)]; exact hsen
  obtain ⟨tyC, dC, hdC, hdnC⟩ := Cond.laysAt hfound hk Y.cause (a' (.lays Bundle.nN Bundle.tN "cause" "Ljava/lang/Throwable;") (by simp [Bundle.npeArmAtoms]))
  obtain ⟨tyS, dS, hdS, hdnS⟩ := Cond.laysAt hfound hk Y.stack (a' (.lays Bundle.nN Bundle.tN "stackTrace" Bundle.steD) (by simp [Bundle.npeArmAtoms]))
  obtain ⟨tyP, dP, hdP, hdnP⟩ := Cond.laysAt hfound hk Y.supp (a' (.lays Bundle.nN Bundle.tN "suppressedExceptions" Bundle.listD) (by simp [Bundle.npeArmAtoms]))
  obtain ⟨tyX, dX, hdX, hdnX⟩ := Cond.laysAt hfound hk hffS (a' (.lays Bundle.nN Bundle.nN "extendedMessageState" "I") (by simp [Bundle.npeArmAtoms, Bundle.npeAtoms]))
  obtain ⟨hnX, htX⟩ := State.fieldFound?_type hffS (t := .int) (by decide +kernel)
  have xC := Cond.laysApart hdC hdX hdnC hdnX (by rw [hnX, Y.causeName]; decide)
  have xS := Cond.laysApart hdS hdX hdnS hdnX (by rw [hnX, Y.stackName]; decide)
  have xP := Cond.laysApart hdP hdX hdnP hdnX (by rw [hnX, Y.suppName]; decide)
  have hv0 : (freshCell P1.m.cls N.kN).slots[N.fState.slot]? = some (.int 0) := by
    have := fresh_default (c := P1.m.cls) tyX
    rw [htX] at this; exact this
  obtain ⟨tyB, dB, hdB, hdnB⟩ := Cond.laysAt hfound hk hffB (a' (.lays Bundle.nN Bundle.tN "backtrace" Bundle.objD) (by simp [Bundle.npeArmAtoms]))
  have bC := Cond.laysApart hdB hdC hdnB hdnC (by rw [hnB, Y.causeName]; decide)
  have bS := Cond.laysApart hdB hdS hdnB hdnS (by rw [hnB, Y.stackName]; decide)
  have bP := Cond.laysApart hdB hdP hdnB hdnP (by rw [hnB, Y.suppName]; decide)
  have bX := Cond.laysApart hdB hdX hdnB hdnX (by rw [hnB, hnX]; decide)
  have hbk : ((npeCell N.toNpeT (preparedCellV T.toThrowableT (freshCell P1.m.cls N.kN) W.heap.size u0 sen) W.cur).withEntry W.cur).slots[fB.slot]? = some .null := by
    have := fresh_default (c := P1.m.cls) tyB
    rw [htB] at this
    simpa [npeCell, preparedCellV, Cell.setSlot, Cell.withEntry, Array.getElem?_setIfInBounds, bC, bS, bP, bX, bC.symm, bS.symm, bP.symm, bX.symm, defaultValue] using this
  have tkC := Takes.of_laid (v := .ref W.heap.size) hk hordN tyC (by rw [Y.causeType]; rfl)
  have tkS := Takes.of_laid (v := u0.v) hk hordN tyS (by rw [Y.stackType]; exact fits_refV_array _ u0)
  have tkP := Takes.of_laid (v := sen.v) hk hordN tyP (by rw [Y.suppType]; exact fits_refV_object _ sen)
  have tkX := Takes.of_laid (v := .int 1) hk hordN tyX (by rw [htX]; rfl)
  have hskip : SkipFacts T e.platform s (fun u => u) u0 ((npeCell N.toNpeT (preparedCellV T.toThrowableT (freshCell P1.m.cls N.kN) W.heap.size u0 sen) W.cur).withEntry W.cur) := ⟨{ ci198 := ci198, i198 := i198, fBack := fB }, ⟨hk198, hg198, ha198, hsB⟩, hbk, fun _ _ => rfl⟩
  obtain ⟨vm', X3, st, -⟩ := X.throwsNpeColdBareVAt hexec hg hsize T L Z LZ N LN P1 L1 [PR, PE] hLs hlink1 ⟨hlinkR, hlinkE, trivial⟩ hfound hk hinit hordN hctor hsel0 hselF hcellS hknownS hvU hvSen
    hv0 xC xS xP tkC tkS tkP tkX Y.objLocals hskip (fun _ _ hA hW _ hroom _ hrest => L.nativeOff p htr hA hW hroom hrest) (by simpa using hRframes) hRlocals (by simp) hRcells (by rw [hn]; exact hRslots)
  have hlt : W.heap.size < ((W.pushCell (freshCell P1.m.cls N.kN)).setVm vm').heap.size := by
    show W.heap.size < (W.pushCell (freshCell P1.m.cls N.kN)).heap.size
    rw [State.heap_size_pushCell]; omega
  rw [hfsz] at X3
  obtain ⟨g₁, hfrM⟩ := X3.frames_eq
  have hU : ((((W.pushCell (freshCell P1.m.cls N.kN)).setVm vm').setCell W.heap.size (npeBareV T.toThrowableT N.toNpeT (freshCell P1.m.cls N.kN) W.heap.size u0 sen)).setTop g).pushFrame (.throwing W.heap.size) = (((W.pushCell (freshCell P1.m.cls N.kN)).setVm vm').setCell W.heap.size (npeBareV T.toThrowableT N.toNpeT (freshCell P1.m.cls N.kN) W.heap.size u0 sen)).setFrames (.throwing W.heap.size :: .java g :: below) := by
    rw [State.pushFrame, State.frames_setTop _ hfrM, State.setTop_of_frames _ hfrM, State.setFrames_setFrames]
  refine ⟨_, W.heap.size, _, fun target ht => st.trans (by rw [← hU]; exact ht), X3.forget (fun y hy => ?_), heapAt_setCell_self _ hlt, hfound, rfl⟩
  simp only [List.mem_cons, List.not_mem_nil, or_false] at hy
  have hge : s.heap.size ≤ W.heap.size := X.same.2.1
  rcases hy with rfl | rfl | rfl | rfl | rfl <;> exact hge
/-- the words of a machine's NullPointerException, but the four that speak of the heap -/
def vx_atN (n : Nat) : List Cond := (Bundle.npeArmAtoms n).filter vx_no
/-- the words of a machine's throw with a message, but the four that speak of the heap -/
def vx_atM (X : String) (names : List String) : List Cond := (Bundle.messageArmAtoms X names).filter vx_no
section
variable {p : Program} {l : Launch} {e : Env} {R : Room} {s : State} {m : MethodId} {args : Array Value} {below : List Frame} {meth : Method} {c : Code} {H : Heap} {locs : List Loc} {cells slots : Nat}
/-- a frame seen from a rebased start, seen from the first start again -/
theorem vx_back9 {T S : State} {R' : Room} {k n : Nat} (X : Stand p l e R s m args below meth c T locs cells slots) (Y : Stand p l e R' ((T.setVm s.vm).setFrames (.invoking m args :: below)) m args below meth c T [] 0 0) (Z : Stand p l e R' ((T.setVm s.vm).setFrames (.invoking m args :: below)) m args below meth c S [] k n) :
    Stand p l e R s m args below meth c S locs (cells + k) (slots + n) := by
  have hW0 : s.WarmedH ((T.setVm s.vm).setFrames (.invoking m args :: below)).vm := State.WarmedH.refl s
  refine { admits := X.admits, cas := X.cas, clock := X.clock, frames := X.frames, room := X.room, hears := X.hears, method := X.method, code := X.code, here := Z.here, tail := Z.tail, warmed := State.WarmedH.trans hW0 Z.warmed, limits := Z.limits.trans (Y.limits.symm.trans X.limits), bytes := Z.bytes.trans (Y.bytes.symm.trans X.bytes), same := ?_ }
  obtain ⟨e1, e2⟩ := Z.same
  rw [State.setFrames_setFrames] at e1
  have h2 : (T.setVm s.vm).sameButNew (S.setVm s.vm) [] k n := ⟨e1, e2⟩
  have h3 := X.same.trans h2
  rw [List.append_nil] at h3
  exact h3
/-- from the machine's note that E is thrown here with this text -/
def vx_Note (p : Program) (l : Launch) (e : Env) (R : Room) (s : State) (m : MethodId) (args : Array Value) (below : List Frame) (meth : Method) (c : Code) (H : Heap) (locs : List Loc) (cells slots : Nat) (Q : State → Prop) (g : JFrame) (E text : String) : Prop :=
  ∀ T : State, T.heap = H → Stand p l e R s m args below meth c T locs cells slots → ∃ t, Steps p.tables e below ((T.setTop g).pushFrame (.throwNew E (some text) none)) t ∧ Q t
theorem vx_vm {pc : Nat} {ls : Array Slot} {rest : List Value} {Q : State → Prop} (hexec : p.tables.exec = Jvm.exec) (hl : l.stackTraces = false) {cls text : String} {names : List String} {nb : Nat} {A : Nat → Prop}
    (hcls : Bundle.fit cls = true) (hnames : ∀ n ∈ names, Bundle.fit n = true) (hsoe : (cls == "java/lang/StackOverflowError") = false) (hoom : (cls == "java/lang/OutOfMemoryError") = false)
    (hat : ∀ w ∈ vx_atM cls names, w.before args s = true) (hgood : ∀ w ∈ vx_atM cls names, vx_ot w = true)
    (hU : vx_Zq Bundle.tN "UNASSIGNED_STACK" Bundle.steD A s s.heap) (hN : vx_Zq Bundle.tN "SUPPRESSED_SENTINEL" Bundle.listD A s s.heap) (hS : va_S A s.heap H locs) (hsize : ls.size = c.maxLocals)
    (htext : (text == notModelled) = false) (hnb : (stringBytes (stringToUtf16 text)).size ≤ nb) (hnb1 : nb ≤ 1000)
    (hRframes : names.length + 4 < R.frames) (hRlocals : (rest.map fun v => v.category).sum + 10240 ≤ R.locals) (hshort : 13 * names.length + 55 ≤ 10240) (hRcells : cells + 3 ≤ R.cells) (hRslots : slots + (nb + 10) ≤ R.slots) (hlocks : meth.locks = false)
    (k : ∀ (H1 : Heap) (q9 : Addr) (ce : Cell), H.size ≤ H1.size → (∀ q : Nat, q < H.size → H1[q]? = H[q]?) → va_S A s.heap H1 locs → H1[q9]? = some ce → ce.vm = .none → s.vm.findClass cls = some ce.cls → vx_W p l e R s m args below meth c H1 locs (cells + 3) (slots + (nb + 10)) Q (F0 m pc ls rest) q9) :
    vx_Note p l e R s m args below meth c H locs cells slots Q (F0 m pc ls rest) cls text := by
  intro T hT X
  have htr : e.platform.stackTraces = false := (show e.platform.stackTraces = l.stackTraces by rw [X.admits.platform]).trans hl
  have Y := vx_rebase X (R' := { frames := R.frames, locals := R.locals, cells := 3, slots := nb + 10 }) (Nat.le_refl _) (Nat.le_refl _) hRcells hRslots
  have hhp : ((T.setVm s.vm).setFrames (.invoking m args :: below)).heap = H := hT
  have hW0 : s.WarmedH ((T.setVm s.vm).setFrames (.invoking m args :: below)).vm := State.WarmedH.refl s
  have hat' : ∀ w ∈ vx_atM cls names, w.before args ((T.setVm s.vm).setFrames (.invoking m args :: below)) = true := fun w hw => vx_ot_at hW0 rfl (hgood w hw) (hat w hw)
  have hU' : vx_Zq Bundle.tN "UNASSIGNED_STACK" Bundle.steD A ((T.setVm s.vm).setFrames (.invoking m args :: below)) ((T.setVm s.vm).setFrames (.invoking m args :: below)).heap := by rw [hhp]; exact vx_Zq.moved hW0.alike (hU.kept hS.2.1)
  have hN' : vx_Zq Bundle.tN "SUPPRESSED_SENTINEL" Bundle.listD A ((T.setVm s.vm).setFrames (.invoking m args :: below)) ((T.setVm s.vm).setFrames (.invoking m args :: below)).heap := by rw [hhp]; exact vx_Zq.moved hW0.alike (hN.kept hS.2.1)
  obtain ⟨S, q, ce, st, Z, hce, hcl', hv⟩ := vx_vmAt Y hexec htr (cls := cls) (names := names) (text := text) hcls hnames hsoe hoom (vx_own hat' (vx_isRefq hU'.1) (vx_isRefq hN'.1) hU'.2.word hN'.2.word) (fun x hx => nomatch hx) htext
    (by rw [Launch.admits_arrayLengthLimit X.admits]; omega) (by rw [Launch.admits_maxHeapBytes X.admits]; simp only [componentBytes]; omega)
    (g := F0 m pc ls rest) rfl hsize hRframes (by show 2 * 0 + (rest.map fun v => v.category).sum + 10240 ≤ R.locals; omega) hshort (by show 0 + 3 ≤ 3; omega) (by show 0 + (_ + 4 + 6) ≤ nb + 10; omega) hlocks
  obtain ⟨f1, f2⟩ := vx_frame Z.same
  have f1' : H.size ≤ S.heap.size := by rw [← hT]; exact f1
  have f2' : ∀ q : Nat, q < H.size → S.heap[q]? = H[q]? := fun q hq => by
    rw [← hT]
    exact f2 q (by rw [← hT] at hq; exact hq) (fun z hz => nomatch hz)
  have X5 := vx_back9 X Y Z
  have X6 : Stand p l e R s m args below meth c S locs (cells + 3) (slots + (nb + 10)) := { X5 with same := X5.same.mono (by omega) (by omega) }
  obtain ⟨t, a1, b1⟩ := k S.heap q ce f1' f2' ⟨Nat.le_trans hS.1 f1', fun q h1 h2 => (f2' q (Nat.lt_of_lt_of_le h1 hS.1)).trans (hS.2.1 q h1 h2), hS.2.2⟩ hce hv hcl' S rfl X6
  exact ⟨t, st t a1, b1⟩
/-- from the machine's note that NullPointerException is thrown here -/
def vx_NoteN (p : Program) (l : Launch) (e : Env) (R : Room) (s : State) (m : MethodId) (args : Array Value) (below : List Frame) (meth : Method) (c : Code) (H : Heap) (locs : List Loc) (cells slots : Nat) (Q : State → Prop) (g : JFrame) : Prop :=
  ∀ T : State, T.heap = H → Stand p l e R s m args below meth c T locs cells slots → ∃ t, Steps p.tables e below ((T.setTop g).pushFrame (.throwNew "java/lang/NullPointerException" none none)) t ∧ Q t
theorem vx_npe {pc : Nat} {ls : Array Slot} {rest : List Value} {Q : State → Prop} (hexec : p.tables.exec = Jvm.exec) (hl : l.stackTraces = false) {nb : Nat} {A : Nat → Prop}
    (hat : ∀ w ∈ vx_atN nb, w.before args s = true) (hgood : ∀ w ∈ vx_atN nb, vx_ot w = true)
    (hU : vx_Zq Bundle.tN "UNASSIGNED_STACK" Bundle.steD A s s.heap) (hN : vx_Zq Bundle.tN "SUPPRESSED_SENTINEL" Bundle.listD A s s.heap) (hS : va_S A s.heap H locs) (hsize : ls.size = c.maxLocals)
    (hRframes : 7 < R.frames) (hRlocals : (rest.map fun v => v.category).sum + 10240 ≤ R.locals) (hRcells : cells + 1 ≤ R.cells) (hRslots : slots + nb ≤ R.slots) (hlocks : meth.locks = false)
    (k : ∀ (H1 : Heap) (q9 : Addr) (ce : Cell), H.size ≤ H1.size → (∀ q : Nat, q < H.size → H1[q]? = H[q]?) → va_S A s.heap H1 locs → H1[q9]? = some ce → ce.vm = .none → s.vm.findClass "java/lang/NullPointerException" = some ce.cls → vx_W p l e R s m args below meth c H1 locs (cells + 1) (slots + nb) Q (F0 m pc ls rest) q9) :
    vx_NoteN p l e R s m args below meth c H locs cells slots Q (F0 m pc ls rest) := by
  intro T hT X
  have htr : e.platform.stackTraces = false := (show e.platform.stackTraces = l.stackTraces by rw [X.admits.platform]).trans hl
  have Y := vx_rebase X (R' := { frames := R.frames, locals := R.locals, cells := 1, slots := nb }) (Nat.le_refl _) (Nat.le_refl _) hRcells hRslots
  have hhp : ((T.setVm s.vm).setFrames (.invoking m args :: below)).heap = H := hT
  have hW0 : s.WarmedH ((T.setVm s.vm).setFrames (.invoking m args :: below)).vm := State.WarmedH.refl s
  have hat' : ∀ w ∈ vx_atN nb, w.before args ((T.setVm s.vm).setFrames (.invoking m args :: below)) = true := fun w hw => vx_ot_at hW0 rfl (hgood w hw) (hat w hw)
  have hU' : vx_Zq Bundle.tN "UNASSIGNED_STACK" Bundle.steD A ((T.setVm s.vm).setFrames (.invoking m args :: below)) ((T.setVm s.vm).setFrames (.invoking m args :: below)).heap := by rw [hhp]; exact vx_Zq.moved hW0.alike (hU.kept hS.2.1)
  have hN' : vx_Zq Bundle.tN "SUPPRESSED_SENTINEL" Bundle.listD A ((T.setVm s.vm).setFrames (.invoking m args :: below)) ((T.setVm s.vm).setFrames (.invoking m args :: below)).heap := by rw [hhp]; exact vx_Zq.moved hW0.alike (hN.kept hS.2.1)
  obtain ⟨S, q, ce, st, Z, hce, hcl', hv⟩ := vx_npeAt Y hexec htr (n := nb) (vx_own hat' (vx_isRefq hU'.1) (vx_isRefq hN'.1) hU'.2.word hN'.2.word) (fun x hx => nomatch hx)
    (g := F0 m pc ls rest) rfl hsize hRframes (by show 2 * 0 + (rest.map fun v => v.category).sum + 10240 ≤ R.locals; omega) (by show 0 + 1 ≤ 1; omega) (by show 0 + nb ≤ nb; omega) hlocks
  obtain ⟨f1, f2⟩ := vx_frame Z.same
  have f1' : H.size ≤ S.heap.size := by rw [← hT]; exact f1
  have f2' : ∀ q : Nat, q < H.size → S.heap[q]? = H[q]? := fun q hq => by
    rw [← hT]
    exact f2 q (by rw [← hT] at hq; exact hq) (fun z hz => nomatch hz)
  have X5 := vx_back9 X Y Z
  have X6 : Stand p l e R s m args below meth c S locs (cells + 1) (slots + nb) := { X5 with same := X5.same.mono (by omega) (by omega) }
  obtain ⟨t, a1, b1⟩ := k S.heap q ce f1' f2' ⟨Nat.le_trans hS.1 f1', fun q h1 h2 => (f2' q (Nat.lt_of_lt_of_le h1 hS.1)).trans (hS.2.1 q h1 h2), hS.2.2⟩ hce hv hcl' S rfl X6
  exact ⟨t, st t a1, b1⟩
variable {Q : State → Prop} {cc : ByteArray} {pc : Nat} {ls : Array Slot} {rest : List Value}
theorem vx_idivZ (hexec : p.tables.exec = Jvm.exec) (hb : c.code = cc) {a b : Int32} (h0 : b = 0) (d : decode cc pc = .ok (.idiv, 1)) (k : vx_Note p l e R s m args below meth c H locs cells slots Q (F0 m pc ls rest) "java/lang/ArithmeticException" "/ by zero") :
    W p l e R s m args below meth c H locs cells slots Q (F0 m pc ls (.int b :: .int a :: rest)) := by
  intro T hT X
  obtain ⟨t, st, q⟩ := k T hT X
  exact ⟨t, X.idivZero hexec (g := F0 m pc ls (.int b :: .int a :: rest)) rfl (a := a) (rest := rest) (by rw [h0]) (by rw [hb]; exact d) t st, q⟩
theorem vx_iremZ (hexec : p.tables.exec = Jvm.exec) (hb : c.code = cc) {a b : Int32} (h0 : b = 0) (d : decode cc pc = .ok (.irem, 1)) (k : vx_Note p l e R s m args below meth c H locs cells slots Q (F0 m pc ls rest) "java/lang/ArithmeticException" "/ by zero") :
    W p l e R s m args below meth c H locs cells slots Q (F0 m pc ls (.int b :: .int a :: rest)) := by
  intro T hT X
  obtain ⟨t, st, q⟩ := k T hT X
  exact ⟨t, X.iremZero hexec (g := F0 m pc ls (.int b :: .int a :: rest)) rfl (a := a) (rest := rest) (by rw [h0]) (by rw [hb]; exact d) t st, q⟩
theorem vx_ldivZ (hexec : p.tables.exec = Jvm.exec) (hb : c.code = cc) {a b : Int64} (h0 : b = 0) (d : decode cc pc = .ok (.ldiv, 1)) (k : vx_Note p l e R s m args below meth c H locs cells slots Q (F0 m pc ls rest) "java/lang/ArithmeticException" "/ by zero") :
    W p l e R s m args below meth c H locs cells slots Q (F0 m pc ls (.long b :: .long a :: rest)) := by
  intro T hT X
  obtain ⟨t, st, q⟩ := k T hT X
  exact ⟨t, X.ldivZero hexec (g := F0 m pc ls (.long b :: .long a :: rest)) rfl (a := a) (rest := rest) (by rw [h0]) (by rw [hb]; exact d) t st, q⟩
theorem vx_lremZ (hexec : p.tables.exec = Jvm.exec) (hb : c.code = cc) {a b : Int64} (h0 : b = 0) (d : decode cc pc = .ok (.lrem, 1)) (k : vx_Note p l e R s m args below meth c H locs cells slots Q (F0 m pc ls rest) "java/lang/ArithmeticException" "/ by zero") :
    W p l e R s m args below meth c H locs cells slots Q (F0 m pc ls (.long b :: .long a :: rest)) := by
  intro T hT X
  obtain ⟨t, st, q⟩ := k T hT X
  exact ⟨t, X.lremZero hexec (g := F0 m pc ls (.long b :: .long a :: rest)) rfl (a := a) (rest := rest) (by rw [h0]) (by rw [hb]; exact d) t st, q⟩
theorem vx_ialdZ {D : va_G} {cl : List vw_C} {ws : va_W} {tys : List (ClassId × FieldType)} {a : Nat} (hexec : p.tables.exec = Jvm.exec) (hb : c.code = cc) (hK : va_K D cl tys s) (hP : va_P D cl ws H) (q0 t0 : Nat) {cA : ClassId} {n : Nat} {f : Nat → Int32} (ha : ws[q0]? = some (a, .inl (cA, n, .inl f))) (ht : tys[t0]? = some (cA, .int)) {i : Int32} (hout : ¬ vp_in i n) (hdg : decode cc pc = .ok (.iaload, 1))
    (k : ∀ tx : String, tx = (toString "Index " ++ toString i ++ toString " out of bounds for length " ++ toString n : String) → vx_Note p l e R s m args below meth c H locs cells slots Q (F0 m pc ls rest) "java/lang/ArrayIndexOutOfBoundsException" tx) : W p l e R s m args below meth c H locs cells slots Q (F0 m pc ls (.int i :: .ref a :: rest)) := by
  intro T hT X
  obtain ⟨t, st, q⟩ := k _ rfl T hT X
  refine ⟨t, ?_, q⟩
  have h1 := X.ialoadOut hexec (by rw [hT]; exact hP q0 _ ha) ((hK.2 t0 _ ht).1 n (fun j => .int (f j))) (j := i) (by show (i < 0 ∨ (arrV _ _ _).slots.size ≤ _); rw [arrV_size]; exact Classical.byContradiction hout) (g := F0 m pc ls (.int i :: .ref a :: rest)) rfl (rest := rest) rfl (by rw [hb]; exact hdg) t
  simp only [arrV_size] at h1
  exact h1 st
theorem vx_iastZ {D : va_G} {cl : List vw_C} {ws : va_W} {tys : List (ClassId × FieldType)} {a : Nat} (hexec : p.tables.exec = Jvm.exec) (hb : c.code = cc) (hK : va_K D cl tys s) (hP : va_P D cl ws H) (q0 t0 : Nat) {cA : ClassId} {n : Nat} {f : Nat → Int32} (ha : ws[q0]? = some (a, .inl (cA, n, .inl f))) (ht : tys[t0]? = some (cA, .int)) {i : Int32} {x : Int32} (hout : ¬ vp_in i n) (hdg : decode cc pc = .ok (.iastore, 1))
    (k : ∀ tx : String, tx = (toString "Index " ++ toString i ++ toString " out of bounds for length " ++ toString n : String) → vx_Note p l e R s m args below meth c H locs cells slots Q (F0 m pc ls rest) "java/lang/ArrayIndexOutOfBoundsException" tx) : W p l e R s m args below meth c H locs cells slots Q (F0 m pc ls (.int x :: .int i :: .ref a :: rest)) := by
  intro T hT X
  obtain ⟨t, st, q⟩ := k _ rfl T hT X
  refine ⟨t, ?_, q⟩
  have h1 := X.iastoreOut hexec (by rw [hT]; exact hP q0 _ ha) ((hK.2 t0 _ ht).1 n (fun j => .int (f j))) (j := i) (by show (i < 0 ∨ (arrV _ _ _).slots.size ≤ _); rw [arrV_size]; exact Classical.byContradiction hout) (g := F0 m pc ls (.int x :: .int i :: .ref a :: rest)) rfl (rest := rest) rfl (by rw [hb]; exact hdg) t
  simp only [arrV_size] at h1
  exact h1 st
theorem vx_baldZ {D : va_G} {cl : List vw_C} {ws : va_W} {tys : List (ClassId × FieldType)} {a : Nat} (hexec : p.tables.exec = Jvm.exec) (hb : c.code = cc) (hK : va_K D cl tys s) (hP : va_P D cl ws H) (q0 t0 : Nat) {cA : ClassId} {n : Nat} {f : Nat → Int32} (ha : ws[q0]? = some (a, .inl (cA, n, .inl f))) (ht : tys[t0]? = some (cA, .byte)) {i : Int32} (hout : ¬ vp_in i n) (hdg : decode cc pc = .ok (.baload, 1))
    (k : ∀ tx : String, tx = (toString "Index " ++ toString i ++ toString " out of bounds for length " ++ toString n : String) → vx_Note p l e R s m args below meth c H locs cells slots Q (F0 m pc ls rest) "java/lang/ArrayIndexOutOfBoundsException" tx) : W p l e R s m args below meth c H locs cells slots Q (F0 m pc ls (.int i :: .ref a :: rest)) := by
  intro T hT X
  obtain ⟨t, st, q⟩ := k _ rfl T hT X
  refine ⟨t, ?_, q⟩
  have h1 := X.baloadOut hexec (by rw [hT]; exact hP q0 _ ha) ((hK.2 t0 _ ht).1 n (fun j => .int (f j))) (j := i) (by show (i < 0 ∨ (arrV _ _ _).slots.size ≤ _); rw [arrV_size]; exact Classical.byContradiction hout) (g := F0 m pc ls (.int i :: .ref a :: rest)) rfl (rest := rest) rfl (by rw [hb]; exact hdg) t
  simp only [arrV_size] at h1
  exact h1 st
theorem vx_bastZ {D : va_G} {cl : List vw_C} {ws : va_W} {tys : List (ClassId × FieldType)} {a : Nat} (hexec : p.tables.exec = Jvm.exec) (hb : c.code = cc) (hK : va_K D cl tys s) (hP : va_P D cl ws H) (q0 t0 : Nat) {cA : ClassId} {n : Nat} {f : Nat → Int32} (ha : ws[q0]? = some (a, .inl (cA, n, .inl f))) (ht : tys[t0]? = some (cA, .byte)) {i : Int32} {x : Int32} (hout : ¬ vp_in i n) (hdg : decode cc pc = .ok (.bastore, 1))
    (k : ∀ tx : String, tx = (toString "Index " ++ toString i ++ toString " out of bounds for length " ++ toString n : String) → vx_Note p l e R s m args below meth c H locs cells slots Q (F0 m pc ls rest) "java/lang/ArrayIndexOutOfBoundsException" tx) : W p l e R s m args below meth c H locs cells slots Q (F0 m pc ls (.int x :: .int i :: .ref a :: rest)) := by
  intro T hT X
  obtain ⟨t, st, q⟩ := k _ rfl T hT X
  refine ⟨t, ?_, q⟩
  have h1 := X.bastoreOut hexec (by rw [hT]; exact hP q0 _ ha) ((hK.2 t0 _ ht).1 n (fun j => .int (f j))) (j := i) (by show (i < 0 ∨ (arrV _ _ _).slots.size ≤ _); rw [arrV_size]; exact Classical.byContradiction hout) (g := F0 m pc ls (.int x :: .int i :: .ref a :: rest)) rfl (rest := rest) rfl (by rw [hb]; exact hdg) t
  simp only [arrV_size] at h1
  exact h1 st
theorem vx_zaldZ {D : va_G} {cl : List vw_C} {ws : va_W} {tys : List (ClassId × FieldType)} {a : Nat} (hexec : p.tables.exec = Jvm.exec) (hb : c.code = cc) (hK : va_K D cl tys s) (hP : va_P D cl ws H) (q0 t0 : Nat) {cA : ClassId} {n : Nat} {f : Nat → Int32} (ha : ws[q0]? = some (a, .inl (cA, n, .inl f))) (ht : tys[t0]? = some (cA, .boolean)) {i : Int32} (hout : ¬ vp_in i n) (hdg : decode cc pc = .ok (.baload, 1))
    (k : ∀ tx : String, tx = (toString "Index " ++ toString i ++ toString " out of bounds for length " ++ toString n : String) → vx_Note p l e R s m args below meth c H locs cells slots Q (F0 m pc ls rest) "java/lang/ArrayIndexOutOfBoundsException" tx) : W p l e R s m args below meth c H locs cells slots Q (F0 m pc ls (.int i :: .ref a :: rest)) := by
  intro T hT X
  obtain ⟨t, st, q⟩ := k _ rfl T hT X
  refine ⟨t, ?_, q⟩
  have h1 := X.baloadOut hexec (by rw [hT]; exact hP q0 _ ha) ((hK.2 t0 _ ht).1 n (fun j => .int (f j))) (j := i) (by show (i < 0 ∨ (arrV _ _ _).slots.size ≤ _); rw [arrV_size]; exact Classical.byContradiction hout) (g := F0 m pc ls (.int i :: .ref a :: rest)) rfl (rest := rest) rfl (by rw [hb]; exact hdg) t
  simp only [arrV_size] at h1
  exact h1 st
theorem vx_zastZ {D : va_G} {cl : List vw_C} {ws : va_W} {tys : List (ClassId × FieldType)} {a : Nat} (hexec : p.tables.exec = Jvm.exec) (hb : c.code = cc) (hK : va_K D cl tys s) (hP : va_P D cl ws H) (q0 t0 : Nat) {cA : ClassId} {n : Nat} {f : Nat → Int32} (ha : ws[q0]? = some (a, .inl (cA, n, .inl f))) (ht : tys[t0]? = some (cA, .boolean)) {i : Int32} {x : Int32} (hout : ¬ vp_in i n) (hdg : decode cc pc = .ok (.bastore, 1))
    (k : ∀ tx : String, tx = (toString "Index " ++ toString i ++ toString " out of bounds for length " ++ toString n : String) → vx_Note p l e R s m args below meth c H locs cells slots Q (F0 m pc ls rest) "java/lang/ArrayIndexOutOfBoundsException" tx) : W p l e R s m args below meth c H locs cells slots Q (F0 m pc ls (.int x :: .int i :: .ref a :: rest)) := by
  intro T hT X
  obtain ⟨t, st, q⟩ := k _ rfl T hT X
  refine ⟨t, ?_, q⟩
  have h1 := X.bastoreOut hexec (by rw [hT]; exact hP q0 _ ha) ((hK.2 t0 _ ht).1 n (fun j => .int (f j))) (j := i) (by show (i < 0 ∨ (arrV _ _ _).slots.size ≤ _); rw [arrV_size]; exact Classical.byContradiction hout) (g := F0 m pc ls (.int x :: .int i :: .ref a :: rest)) rfl (rest := rest) rfl (by rw [hb]; exact hdg) t
  simp only [arrV_size] at h1
  exact h1 st
theorem vx_caldZ {D : va_G} {cl : List vw_C} {ws : va_W} {tys : List (ClassId × FieldType)} {a : Nat} (hexec : p.tables.exec = Jvm.exec) (hb : c.code = cc) (hK : va_K D cl tys s) (hP : va_P D cl ws H) (q0 t0 : Nat) {cA : ClassId} {n : Nat} {f : Nat → Int32} (ha : ws[q0]? = some (a, .inl (cA, n, .inl f))) (ht : tys[t0]? = some (cA, .char)) {i : Int32} (hout : ¬ vp_in i n) (hdg : decode cc pc = .ok (.caload, 1))
    (k : ∀ tx : String, tx = (toString "Index " ++ toString i ++ toString " out of bounds for length " ++ toString n : String) → vx_Note p l e R s m args below meth c H locs cells slots Q (F0 m pc ls rest) "java/lang/ArrayIndexOutOfBoundsException" tx) : W p l e R s m args below meth c H locs cells slots Q (F0 m pc ls (.int i :: .ref a :: rest)) := by
  intro T hT X
  obtain ⟨t, st, q⟩ := k _ rfl T hT X
  refine ⟨t, ?_, q⟩
  have h1 := X.caloadOut hexec (by rw [hT]; exact hP q0 _ ha) ((hK.2 t0 _ ht).1 n (fun j => .int (f j))) (j := i) (by show (i < 0 ∨ (arrV _ _ _).slots.size ≤ _); rw [arrV_size]; exact Classical.byContradiction hout) (g := F0 m pc ls (.int i :: .ref a :: rest)) rfl (rest := rest) rfl (by rw [hb]; exact hdg) t
  simp only [arrV_size] at h1
  exact h1 st
theorem vx_castZ {D : va_G} {cl : List vw_C} {ws : va_W} {tys : List (ClassId × FieldType)} {a : Nat} (hexec : p.tables.exec = Jvm.exec) (hb : c.code = cc) (hK : va_K D cl tys s) (hP : va_P D cl ws H) (q0 t0 : Nat) {cA : ClassId} {n : Nat} {f : Nat → Int32} (ha : ws[q0]? = some (a, .inl (cA, n, .inl f))) (ht : tys[t0]? = some (cA, .char)) {i : Int32} {x : Int32} (hout : ¬ vp_in i n) (hdg : decode cc pc = .ok (.castore, 1))
    (k : ∀ tx : String, tx = (toString "Index " ++ toString i ++ toString " out of bounds for length " ++ toString n : String) → vx_Note p l e R s m args below meth c H locs cells slots Q (F0 m pc ls rest) "java/lang/ArrayIndexOutOfBoundsException" tx) : W p l e R s m args below meth c H locs cells slots Q (F0 m pc ls (.int x :: .int i :: .ref a :: rest)) := by
  intro T hT X
  obtain ⟨t, st, q⟩ := k _ rfl T hT X
  refine ⟨t, ?_, q⟩
  have h1 := X.castoreOut hexec (by rw [hT]; exact hP q0 _ ha) ((hK.2 t0 _ ht).1 n (fun j => .int (f j))) (j := i) (by show (i < 0 ∨ (arrV _ _ _).slots.size ≤ _); rw [arrV_size]; exact Classical.byContradiction hout) (g := F0 m pc ls (.int x :: .int i :: .ref a :: rest)) rfl (rest := rest) rfl (by rw [hb]; exact hdg) t
  simp only [arrV_size] at h1
  exact h1 st
theorem vx_saldZ {D : va_G} {cl : List vw_C} {ws : va_W} {tys : List (ClassId × FieldType)} {a : Nat} (hexec : p.tables.exec = Jvm.exec) (hb : c.code = cc) (hK : va_K D cl tys s) (hP : va_P D cl ws H) (q0 t0 : Nat) {cA : ClassId} {n : Nat} {f : Nat → Int32} (ha : ws[q0]? = some (a, .inl (cA, n, .inl f))) (ht : tys[t0]? = some (cA, .short)) {i : Int32} (hout : ¬ vp_in i n) (hdg : decode cc pc = .ok (.saload, 1))
    (k : ∀ tx : String, tx = (toString "Index " ++ toString i ++ toString " out of bounds for length " ++ toString n : String) → vx_Note p l e R s m args below meth c H locs cells slots Q (F0 m pc ls rest) "java/lang/ArrayIndexOutOfBoundsException" tx) : W p l e R s m args below meth c H locs cells slots Q (F0 m pc ls (.int i :: .ref a :: rest)) := by
  intro T hT X
  obtain ⟨t, st, q⟩ := k _ rfl T hT X
  refine ⟨t, ?_, q⟩
  have h1 := X.saloadOut hexec (by rw [hT]; exact hP q0 _ ha) ((hK.2 t0 _ ht).1 n (fun j => .int (f j))) (j := i) (by show (i < 0 ∨ (arrV _ _ _).slots.size ≤ _); rw [arrV_size]; exact Classical.byContradiction hout) (g := F0 m pc ls (.int i :: .ref a :: rest)) rfl (rest := rest) rfl (by rw [hb]; exact hdg) t
  simp only [arrV_size] at h1
  exact h1 st
theorem vx_sastZ {D : va_G} {cl : List vw_C} {ws : va_W} {tys : List (ClassId × FieldType)} {a : Nat} (hexec : p.tables.exec = Jvm.exec) (hb : c.code = cc) (hK : va_K D cl tys s) (hP : va_P D cl ws H) (q0 t0 : Nat) {cA : ClassId} {n : Nat} {f : Nat → Int32} (ha : ws[q0]? = some (a, .inl (cA, n, .inl f))) (ht : tys[t0]? = some (cA, .short)) {i : Int32} {x : Int32} (hout : ¬ vp_in i n) (hdg : decode cc pc = .ok (.sastore, 1))
    (k : ∀ tx : String, tx = (toString "Index " ++ toString i ++ toString " out of bounds for length " ++ toString n : String) → vx_Note p l e R s m args below meth c H locs cells slots Q (F0 m pc ls rest) "java/lang/ArrayIndexOutOfBoundsException" tx) : W p l e R s m args below meth c H locs cells slots Q (F0 m pc ls (.int x :: .int i :: .ref a :: rest)) := by
  intro T hT X
  obtain ⟨t, st, q⟩ := k _ rfl T hT X
  refine ⟨t, ?_, q⟩
  have h1 := X.sastoreOut hexec (by rw [hT]; exact hP q0 _ ha) ((hK.2 t0 _ ht).1 n (fun j => .int (f j))) (j := i) (by show (i < 0 ∨ (arrV _ _ _).slots.size ≤ _); rw [arrV_size]; exact Classical.byContradiction hout) (g := F0 m pc ls (.int x :: .int i :: .ref a :: rest)) rfl (rest := rest) rfl (by rw [hb]; exact hdg) t
  simp only [arrV_size] at h1
  exact h1 st
theorem vx_laldZ {D : va_G} {cl : List vw_C} {ws : va_W} {tys : List (ClassId × FieldType)} {a : Nat} (hexec : p.tables.exec = Jvm.exec) (hb : c.code = cc) (hK : va_K D cl tys s) (hP : va_P D cl ws H) (q0 t0 : Nat) {cA : ClassId} {n : Nat} {f : Nat → Int64} (ha : ws[q0]? = some (a, .inl (cA, n, .inr (.inl f)))) (ht : tys[t0]? = some (cA, .long)) {i : Int32} (hout : ¬ vp_in i n) (hdg : decode cc pc = .ok (.laload, 1))
    (k : ∀ tx : String, tx = (toString "Index " ++ toString i ++ toString " out of bounds for length " ++ toString n : String) → vx_Note p l e R s m args below meth c H locs cells slots Q (F0 m pc ls rest) "java/lang/ArrayIndexOutOfBoundsException" tx) : W p l e R s m args below meth c H locs cells slots Q (F0 m pc ls (.int i :: .ref a :: rest)) := by
  intro T hT X
  obtain ⟨t, st, q⟩ := k _ rfl T hT X
  refine ⟨t, ?_, q⟩
  have h1 := X.laloadOut hexec (by rw [hT]; exact hP q0 _ ha) ((hK.2 t0 _ ht).1 n (fun j => .long (f j))) (j := i) (by show (i < 0 ∨ (arrV _ _ _).slots.size ≤ _); rw [arrV_size]; exact Classical.byContradiction hout) (g := F0 m pc ls (.int i :: .ref a :: rest)) rfl (rest := rest) rfl (by rw [hb]; exact hdg) t
  simp only [arrV_size] at h1
  exact h1 st
theorem vx_lastZ {D : va_G} {cl : List vw_C} {ws : va_W} {tys : List (ClassId × FieldType)} {a : Nat} (hexec : p.tables.exec = Jvm.exec) (hb : c.code = cc) (hK : va_K D cl tys s) (hP : va_P D cl ws H) (q0 t0 : Nat) {cA : ClassId} {n : Nat} {f : Nat → Int64} (ha : ws[q0]? = some (a, .inl (cA, n, .inr (.inl f)))) (ht : tys[t0]? = some (cA, .long)) {i : Int32} {x : Int64} (hout : ¬ vp_in i n) (hdg : decode cc pc = .ok (.lastore, 1))
    (k : ∀ tx : String, tx = (toString "Index " ++ toString i ++ toString " out of bounds for length " ++ toString n : String) → vx_Note p l e R s m args below meth c H locs cells slots Q (F0 m pc ls rest) "java/lang/ArrayIndexOutOfBoundsException" tx) : W p l e R s m args below meth c H locs cells slots Q (F0 m pc ls (.long x :: .int i :: .ref a :: rest)) := by
  intro T hT X
  obtain ⟨t, st, q⟩ := k _ rfl T hT X
  refine ⟨t, ?_, q⟩
  have h1 := X.lastoreOut hexec (by rw [hT]; exact hP q0 _ ha) ((hK.2 t0 _ ht).1 n (fun j => .long (f j))) (j := i) (by show (i < 0 ∨ (arrV _ _ _).slots.size ≤ _); rw [arrV_size]; exact Classical.byContradiction hout) (g := F0 m pc ls (.long x :: .int i :: .ref a :: rest)) rfl (rest := rest) rfl (by rw [hb]; exact hdg) t
  simp only [arrV_size] at h1
  exact h1 st
theorem vx_faldZ {D : va_G} {cl : List vw_C} {ws : va_W} {tys : List (ClassId × FieldType)} {a : Nat} (hexec : p.tables.exec = Jvm.exec) (hb : c.code = cc) (hK : va_K D cl tys s) (hP : va_P D cl ws H) (q0 t0 : Nat) {cA : ClassId} {n : Nat} {f : Nat → UInt32} (ha : ws[q0]? = some (a, .inl (cA, n, .inr (.inr (.inl f))))) (ht : tys[t0]? = some (cA, .float)) {i : Int32} (hout : ¬ vp_in i n) (hdg : decode cc pc = .ok (.faload, 1))
    (k : ∀ tx : String, tx = (toString "Index " ++ toString i ++ toString " out of bounds for length " ++ toString n : String) → vx_Note p l e R s m args below meth c H locs cells slots Q (F0 m pc ls rest) "java/lang/ArrayIndexOutOfBoundsException" tx) : W p l e R s m args below meth c H locs cells slots Q (F0 m pc ls (.int i :: .ref a :: rest)) := by
  intro T hT X
  obtain ⟨t, st, q⟩ := k _ rfl T hT X
  refine ⟨t, ?_, q⟩
  have h1 := X.faloadOut hexec (by rw [hT]; exact hP q0 _ ha) ((hK.2 t0 _ ht).1 n (fun j => .float (f j))) (j := i) (by show (i < 0 ∨ (arrV _ _ _).slots.size ≤ _); rw [arrV_size]; exact Classical.byContradiction hout) (g := F0 m pc ls (.int i :: .ref a :: rest)) rfl (rest := rest) rfl (by rw [hb]; exact hdg) t
  simp only [arrV_size] at h1
  exact h1 st
theorem vx_fastZ {D : va_G} {cl : List vw_C} {ws : va_W} {tys : List (ClassId × FieldType)} {a : Nat} (hexec : p.tables.exec = Jvm.exec) (hb : c.code = cc) (hK : va_K D cl tys s) (hP : va_P D cl ws H) (q0 t0 : Nat) {cA : ClassId} {n : Nat} {f : Nat → UInt32} (ha : ws[q0]? = some (a, .inl (cA, n, .inr (.inr (.inl f))))) (ht : tys[t0]? = some (cA, .float)) {i : Int32} {x : UInt32} (hout : ¬ vp_in i n) (hdg : decode cc pc = .ok (.fastore, 1))
    (k : ∀ tx : String, tx = (toString "Index " ++ toString i ++ toString " out of bounds for length " ++ toString n : String) → vx_Note p l e R s m args below meth c H locs cells slots Q (F0 m pc ls rest) "java/lang/ArrayIndexOutOfBoundsException" tx) : W p l e R s m args below meth c H locs cells slots Q (F0 m pc ls (.float x :: .int i :: .ref a :: rest)) := by
  intro T hT X
  obtain ⟨t, st, q⟩ := k _ rfl T hT X
  refine ⟨t, ?_, q⟩
  have h1 := X.fastoreOut hexec (by rw [hT]; exact hP q0 _ ha) ((hK.2 t0 _ ht).1 n (fun j => .float (f j))) (j := i) (by show (i < 0 ∨ (arrV _ _ _).slots.size ≤ _); rw [arrV_size]; exact Classical.byContradiction hout) (g := F0 m pc ls (.float x :: .int i :: .ref a :: rest)) rfl (rest := rest) rfl (by rw [hb]; exact hdg) t
  simp only [arrV_size] at h1
  exact h1 st
theorem vx_daldZ {D : va_G} {cl : List vw_C} {ws : va_W} {tys : List (ClassId × FieldType)} {a : Nat} (hexec : p.tables.exec = Jvm.exec) (hb : c.code = cc) (hK : va_K D cl tys s) (hP : va_P D cl ws H) (q0 t0 : Nat) {cA : ClassId} {n : Nat} {f : Nat → UInt64} (ha : ws[q0]? = some (a, .inl (cA, n, .inr (.inr (.inr (.inl f)))))) (ht : tys[t0]? = some (cA, .double)) {i : Int32} (hout : ¬ vp_in i n) (hdg : decode cc pc = .ok (.daload, 1))
    (k : ∀ tx : String, tx = (toString "Index " ++ toString i ++ toString " out of bounds for length " ++ toString n : String) → vx_Note p l e R s m args below meth c H locs cells slots Q (F0 m pc ls rest) "java/lang/ArrayIndexOutOfBoundsException" tx) : W p l e R s m args below meth c H locs cells slots Q (F0 m pc ls (.int i :: .ref a :: rest)) := by
  intro T hT X
  obtain ⟨t, st, q⟩ := k _ rfl T hT X
  refine ⟨t, ?_, q⟩
  have h1 := X.daloadOut hexec (by rw [hT]; exact hP q0 _ ha) ((hK.2 t0 _ ht).1 n (fun j => .double (f j))) (j := i) (by show (i < 0 ∨ (arrV _ _ _).slots.size ≤ _); rw [arrV_size]; exact Classical.byContradiction hout) (g := F0 m pc ls (.int i :: .ref a :: rest)) rfl (rest := rest) rfl (by rw [hb]; exact hdg) t
  simp only [arrV_size] at h1
  exact h1 st
theorem vx_dastZ {D : va_G} {cl : List vw_C} {ws : va_W} {tys : List (ClassId × FieldType)} {a : Nat} (hexec : p.tables.exec = Jvm.exec) (hb : c.code = cc) (hK : va_K D cl tys s) (hP : va_P D cl ws H) (q0 t0 : Nat) {cA : ClassId} {n : Nat} {f : Nat → UInt64} (ha : ws[q0]? = some (a, .inl (cA, n, .inr (.inr (.inr (.inl f)))))) (ht : tys[t0]? = some (cA, .double)) {i : Int32} {x : UInt64} (hout : ¬ vp_in i n) (hdg : decode cc pc = .ok (.dastore, 1))
    (k : ∀ tx : String, tx = (toString "Index " ++ toString i ++ toString " out of bounds for length " ++ toString n : String) → vx_Note p l e R s m args below meth c H locs cells slots Q (F0 m pc ls rest) "java/lang/ArrayIndexOutOfBoundsException" tx) : W p l e R s m args below meth c H locs cells slots Q (F0 m pc ls (.double x :: .int i :: .ref a :: rest)) := by
  intro T hT X
  obtain ⟨t, st, q⟩ := k _ rfl T hT X
  refine ⟨t, ?_, q⟩
  have h1 := X.dastoreOut hexec (by rw [hT]; exact hP q0 _ ha) ((hK.2 t0 _ ht).1 n (fun j => .double (f j))) (j := i) (by show (i < 0 ∨ (arrV _ _ _).slots.size ≤ _); rw [arrV_size]; exact Classical.byContradiction hout) (g := F0 m pc ls (.double x :: .int i :: .ref a :: rest)) rfl (rest := rest) rfl (by rw [hb]; exact hdg) t
  simp only [arrV_size] at h1
  exact h1 st
theorem vx_arraylengthN (hexec : p.tables.exec = Jvm.exec) (hb : c.code = cc) (hdg : decode cc pc = .ok (.arraylength, 1)) (k : vx_NoteN p l e R s m args below meth c H locs cells slots Q (F0 m pc ls rest)) : W p l e R s m args below meth c H locs cells slots Q (F0 m pc ls (.null :: rest)) := by
  intro T hT X
  obtain ⟨t, st, q⟩ := k T hT X
  exact ⟨t, X.arraylengthNull hexec (g := F0 m pc ls (.null :: rest)) rfl (rest := rest) rfl (by rw [hb]; exact hdg) t st, q⟩
theorem vx_ialoadN (hexec : p.tables.exec = Jvm.exec) (hb : c.code = cc) {i : Int32} (hdg : decode cc pc = .ok (.iaload, 1)) (k : vx_NoteN p l e R s m args below meth c H locs cells slots Q (F0 m pc ls rest)) : W p l e R s m args below meth c H locs cells slots Q (F0 m pc ls (.int i :: .null :: rest)) := by
  intro T hT X
  obtain ⟨t, st, q⟩ := k T hT X
  exact ⟨t, X.ialoadNull hexec (g := F0 m pc ls (.int i :: .null :: rest)) rfl (rest := rest) rfl (by rw [hb]; exact hdg) t st, q⟩
theorem vx_laloadN (hexec : p.tables.exec = Jvm.exec) (hb : c.code = cc) {i : Int32} (hdg : decode cc pc = .ok (.laload, 1)) (k : vx_NoteN p l e R s m args below meth c H locs cells slots Q (F0 m pc ls rest)) : W p l e R s m args below meth c H locs cells slots Q (F0 m pc ls (.int i :: .null :: rest)) := by
  intro T hT X
  obtain ⟨t, st, q⟩ := k T hT X
  exact ⟨t, X.laloadNull hexec (g := F0 m pc ls (.int i :: .null :: rest)) rfl (rest := rest) rfl (by rw [hb]; exact hdg) t st, q⟩
theorem vx_faloadN (hexec : p.tables.exec = Jvm.exec) (hb : c.code = cc) {i : Int32} (hdg : decode cc pc = .ok (.faload, 1)) (k : vx_NoteN p l e R s m args below meth c H locs cells slots Q (F0 m pc ls rest)) : W p l e R s m args below meth c H locs cells slots Q (F0 m pc ls (.int i :: .null :: rest)) := by
  intro T hT X
  obtain ⟨t, st, q⟩ := k T hT X
  exact ⟨t, X.faloadNull hexec (g := F0 m pc ls (.int i :: .null :: rest)) rfl (rest := rest) rfl (by rw [hb]; exact hdg) t st, q⟩
theorem vx_daloadN (hexec : p.tables.exec = Jvm.exec) (hb : c.code = cc) {i : Int32} (hdg : decode cc pc = .ok (.daload, 1)) (k : vx_NoteN p l e R s m args below meth c H locs cells slots Q (F0 m pc ls rest)) : W p l e R s m args below meth c H locs cells slots Q (F0 m pc ls (.int i :: .null :: rest)) := by
  intro T hT X
  obtain ⟨t, st, q⟩ := k T hT X
  exact ⟨t, X.daloadNull hexec (g := F0 m pc ls (.int i :: .null :: rest)) rfl (rest := rest) rfl (by rw [hb]; exact hdg) t st, q⟩
theorem vx_aaloadN (hexec : p.tables.exec = Jvm.exec) (hb : c.code = cc) {i : Int32} (hdg : decode cc pc = .ok (.aaload, 1)) (k : vx_NoteN p l e R s m args below meth c H locs cells slots Q (F0 m pc ls rest)) : W p l e R s m args below meth c H locs cells slots Q (F0 m pc ls (.int i :: .null :: rest)) := by
  intro T hT X
  obtain ⟨t, st, q⟩ := k T hT X
  exact ⟨t, X.aaloadNull hexec (g := F0 m pc ls (.int i :: .null :: rest)) rfl (rest := rest) rfl (by rw [hb]; exact hdg) t st, q⟩
theorem vx_baloadN (hexec : p.tables.exec = Jvm.exec) (hb : c.code = cc) {i : Int32} (hdg : decode cc pc = .ok (.baload, 1)) (k : vx_NoteN p l e R s m args below meth c H locs cells slots Q (F0 m pc ls rest)) : W p l e R s m args below meth c H locs cells slots Q (F0 m pc ls (.int i :: .null :: rest)) := by
  intro T hT X
  obtain ⟨t, st, q⟩ := k T hT X
  exact ⟨t, X.baloadNull hexec (g := F0 m pc ls (.int i :: .null :: rest)) rfl (rest := rest) rfl (by rw [hb]; exact hdg) t st, q⟩
theorem vx_caloadN (hexec : p.tables.exec = Jvm.exec) (hb : c.code = cc) {i : Int32} (hdg : decode cc pc = .ok (.caload, 1)) (k : vx_NoteN p l e R s m args below meth c H locs cells slots Q (F0 m pc ls rest)) : W p l e R s m args below meth c H locs cells slots Q (F0 m pc ls (.int i :: .null :: rest)) := by
  intro T hT X
  obtain ⟨t, st, q⟩ := k T hT X
  exact ⟨t, X.caloadNull hexec (g := F0 m pc ls (.int i :: .null :: rest)) rfl (rest := rest) rfl (by rw [hb]; exact hdg) t st, q⟩
theorem vx_saloadN (hexec : p.tables.exec = Jvm.exec) (hb : c.code = cc) {i : Int32} (hdg : decode cc pc = .ok (.saload, 1)) (k : vx_NoteN p l e R s m args below meth c H locs cells slots Q (F0 m pc ls rest)) : W p l e R s m args below meth c H locs cells slots Q (F0 m pc ls (.int i :: .null :: rest)) := by
  intro T hT X
  obtain ⟨t, st, q⟩ := k T hT X
  exact ⟨t, X.saloadNull hexec (g := F0 m pc ls (.int i :: .null :: rest)) rfl (rest := rest) rfl (by rw [hb]; exact hdg) t st, q⟩
theorem vx_iastoreN (hexec : p.tables.exec = Jvm.exec) (hb : c.code = cc) {x : Int32} {i : Int32} (hdg : decode cc pc = .ok (.iastore, 1)) (k : vx_NoteN p l e R s m args below meth c H locs cells slots Q (F0 m pc ls rest)) : W p l e R s m args below meth c H locs cells slots Q (F0 m pc ls (.int x :: .int i :: .null :: rest)) := by
  intro T hT X
  obtain ⟨t, st, q⟩ := k T hT X
  exact ⟨t, X.iastoreNull hexec (g := F0 m pc ls (.int x :: .int i :: .null :: rest)) rfl (rest := rest) rfl (by rw [hb]; exact hdg) t st, q⟩
theorem vx_lastoreN (hexec : p.tables.exec = Jvm.exec) (hb : c.code = cc) {x : Int64} {i : Int32} (hdg : decode cc pc = .ok (.lastore, 1)) (k : vx_NoteN p l e R s m args below meth c H locs cells slots Q (F0 m pc ls rest)) : W p l e R s m args below meth c H locs cells slots Q (F0 m pc ls (.long x :: .int i :: .null :: rest)) := by
  intro T hT X
  obtain ⟨t, st, q⟩ := k T hT X
  exact ⟨t, X.lastoreNull hexec (g := F0 m pc ls (.long x :: .int i :: .null :: rest)) rfl (rest := rest) rfl (by rw [hb]; exact hdg) t st, q⟩
theorem vx_fastoreN (hexec : p.tables.exec = Jvm.exec) (hb : c.code = cc) {x : UInt32} {i : Int32} (hdg : decode cc pc = .ok (.fastore, 1)) (k : vx_NoteN p l e R s m args below meth c H locs cells slots Q (F0 m pc ls rest)) : W p l e R s m args below meth c H locs cells slots Q (F0 m pc ls (.float x :: .int i :: .null :: rest)) := by
  intro T hT X
  obtain ⟨t, st, q⟩ := k T hT X
  exact ⟨t, X.fastoreNull hexec (g := F0 m pc ls (.float x :: .int i :: .null :: rest)) rfl (rest := rest) rfl (by rw [hb]; exact hdg) t st, q⟩
theorem vx_dastoreN (hexec : p.tables.exec = Jvm.exec) (hb : c.code = cc) {x : UInt64} {i : Int32} (hdg : decode cc pc = .ok (.dastore, 1)) (k : vx_NoteN p l e R s m args below meth c H locs cells slots Q (F0 m pc ls rest)) : W p l e R s m args below meth c H locs cells slots Q (F0 m pc ls (.double x :: .int i :: .null :: rest)) := by
  intro T hT X
  obtain ⟨t, st, q⟩ := k T hT X
  exact ⟨t, X.dastoreNull hexec (g := F0 m pc ls (.double x :: .int i :: .null :: rest)) rfl (rest := rest) rfl (by rw [hb]; exact hdg) t st, q⟩
theorem vx_bastoreN (hexec : p.tables.exec = Jvm.exec) (hb : c.code = cc) {x : Int32} {i : Int32} (hdg : decode cc pc = .ok (.bastore, 1)) (k : vx_NoteN p l e R s m args below meth c H locs cells slots Q (F0 m pc ls rest)) : W p l e R s m args below meth c H locs cells slots Q (F0 m pc ls (.int x :: .int i :: .null :: rest)) := by
  intro T hT X
  obtain ⟨t, st, q⟩ := k T hT X
  exact ⟨t, X.bastoreNull hexec (g := F0 m pc ls (.int x :: .int i :: .null :: rest)) rfl (rest := rest) rfl (by rw [hb]; exact hdg) t st, q⟩
theorem vx_castoreN (hexec : p.tables.exec = Jvm.exec) (hb : c.code = cc) {x : Int32} {i : Int32} (hdg : decode cc pc = .ok (.castore, 1)) (k : vx_NoteN p l e R s m args below meth c H locs cells slots Q (F0 m pc ls rest)) : W p l e R s m args below meth c H locs cells slots Q (F0 m pc ls (.int x :: .int i :: .null :: rest)) := by
  intro T hT X
  obtain ⟨t, st, q⟩ := k T hT X
  exact ⟨t, X.castoreNull hexec (g := F0 m pc ls (.int x :: .int i :: .null :: rest)) rfl (rest := rest) rfl (by rw [hb]; exact hdg) t st, q⟩
theorem vx_sastoreN (hexec : p.tables.exec = Jvm.exec) (hb : c.code = cc) {x : Int32} {i : Int32} (hdg : decode cc pc = .ok (.sastore, 1)) (k : vx_NoteN p l e R s m args below meth c H locs cells slots Q (F0 m pc ls rest)) : W p l e R s m args below meth c H locs cells slots Q (F0 m pc ls (.int x :: .int i :: .null :: rest)) := by
  intro T hT X
  obtain ⟨t, st, q⟩ := k T hT X
  exact ⟨t, X.sastoreNull hexec (g := F0 m pc ls (.int x :: .int i :: .null :: rest)) rfl (rest := rest) rfl (by rw [hb]; exact hdg) t st, q⟩
theorem vx_invokeN {own C : String} {index maxL : Nat} {y : MethodName} {bytes : ByteArray} {ret : Option FieldType} (hexec : p.tables.exec = Jvm.exec) (hb : c.code = cc) (hown : s.vm.findClass own = some m.cls) (hlink : (Cond.methodLink own index y).before args s = true) (hinst : (Cond.instanceMethod y).before args s = true) (hcode : (Cond.code y bytes maxL ret).before args s = true) (hsel : (Cond.selects C y y).before args s = true)
    (hx : y.cls ≠ "java/lang/invoke/MethodHandle" ∧ y.cls ≠ "java/lang/invoke/VarHandle") {As : List Value} (hlen : (parseMethodDescriptor y.desc).map (fun d => d.parameters.length) = some As.length) (hdg : decode cc pc = .ok (.invokevirtual index, 3))
    (k : vx_NoteN p l e R s m args below meth c H locs cells slots Q (F0 m pc ls rest)) {st0 : List Value} (hst : st0 = As.reverse ++ .null :: rest) : W p l e R s m args below meth c H locs cells slots Q (F0 m pc ls st0) := by
  intro T hT X
  obtain ⟨r0, r, hn, hrm, hstR, hsigR⟩ := va_Decl.of hinst hcode
  obtain ⟨c2, r2, m2, q1, q2, q3, q4, kP, hkP, hkPi⟩ := Cond.selects_spec hsel
  cases hn.symm.trans q3
  have hl9 : As.length = r.sig.parameters.length := by
    rw [hsigR] at hlen
    exact (Option.some.inj hlen).symm
  obtain ⟨vm', X1, st1⟩ := X.invokevirtualNull hexec hown hlink hn hrm hstR hkP hkPi hx (g := F0 m pc ls st0) rfl (argsL := As) (rest := rest) hl9 hst (by rw [hb]; exact hdg)
  obtain ⟨t, st, q⟩ := k (T.setVm vm') hT X1
  exact ⟨t, st1 t st, q⟩
theorem vx_newarrayZ {atype : ArrayType} (hexec : p.tables.exec = Jvm.exec) (hb : c.code = cc) {n : Int32} (h0 : n < 0) (hdg : decode cc pc = .ok (.newarray atype, 2)) (k : ∀ tx : String, tx = toString n → vx_Note p l e R s m args below meth c H locs cells slots Q (F0 m pc ls rest) "java/lang/NegativeArraySizeException" tx) : W p l e R s m args below meth c H locs cells slots Q (F0 m pc ls (.int n :: rest)) := by
  intro T hT X
  obtain ⟨t, st, q⟩ := k _ rfl T hT X
  exact ⟨t, X.newarrayNegative hexec (g := F0 m pc ls (.int n :: rest)) rfl h0 (rest := rest) rfl (by rw [hb]; exact hdg) t st, q⟩
end
end VXM
/-! ===== END ===== -/
/-! ===== BEGIN an exception as an object: made, kept, thrown later (no traces kept) ===== -/
section VXK
variable {p : Program} {l : Launch} {e : Env} {R : Room} {s : State} {m₀ : MethodId} {args : Array Value} {below : List Frame} {meth : Method} {c : Code} {W : State} {locs : List Loc} {cells slots : Nat}
set_option maxHeartbeats 1000000 in
theorem vx_ctorMadeS (X : Stand p l e R s m₀ args below meth c W locs cells slots) (hexec : p.tables.exec = Jvm.exec) (htr : e.platform.stackTraces = false) {own cls : String} {names : List String} {ic : Nat}
    (hown : s.vm.findClass own = some m₀.cls) (hcls : Bundle.fit cls = true) (hnames : ∀ n ∈ names, Bundle.fit n = true)
    (h : ∀ a ∈ Bundle.ownAtoms own ic cls names, a.before args s = true)
    (hlocs : ∀ x ∈ locs, ∀ cell, s.heap[x.base]? = some cell → cell.vm.isStatics = false)
    {a : Addr} {cX : ClassId} {kX : Class} (hfoundX : s.vm.findClass cls = some cX) (hkX : s.vm.classes[cX]? = some kX) (hcell : W.heap[a]? = some (freshCell cX kX)) (hnew : s.heap.size ≤ a)
    {msg : Value} (hmsg : msg.isRef = true)
    {g : JFrame} (hg : g.method = m₀) (hsize : g.locals.size = c.maxLocals) {rest : List Value} (hstack : g.stack = msg :: .ref a :: .ref a :: rest)
    (hd6 : decode c.code g.pc = .ok (.invokespecial ic, 3))
    (hRframes : names.length + 3 < R.frames) (hRlocals : 2 * g.monitorRoom + ((Value.ref a :: rest).map fun v => v.category).sum + (13 * (names.length + 1) + 42) ≤ R.locals) :
    ∃ (V : State) (ce : Cell) (L : List Loc), Stand p l e R s m₀ args below meth c (V.setCell a ce) (locs ++ L) cells slots ∧ (∀ y ∈ L, y.base = a) ∧ a < V.heap.size ∧ ce.cls = cX ∧ ce.vm = .none ∧
      ∀ target, Steps p.tables e below ((V.setCell a ce).setTop { g with stack := .ref a :: rest, pc := g.pc + 3 }) target → Steps p.tables e below (W.setTop g) target := by
  have howns : e.platform.frameOwnsMonitors = true := by rw [X.admits.platform]
  have hfin : e.platform.finalization = false := by rw [X.admits.platform]
  have hpl : e.platform.magicAccessors = ({} : Platform).magicAccessors := by rw [X.admits.platform]
  have a' : ∀ x, x ∈ Bundle.ownAtoms own ic cls names → x.holds args s none s [] = true := fun x hx => h x hx
  obtain ⟨T, Z0, L, -, Y⟩ := ThrowableC.of_atoms (args := args) howns hfin hpl (fun x hx => h x (by simp [Bundle.ownAtoms, hx]))
  obtain ⟨Z, M, LZ, LM, hnZ⟩ := Init0T.ofS_atoms (args := args) hpl L Y (fun x hx => h x (by simp [Bundle.ownAtoms, hx]))
  obtain ⟨P1, Ps, hlen, L1, hL, hP1m, hlink1, hlink⟩ := Bundle.chainS (args := args) hpl hnZ names cls hcls hnames (fun x hx => h x (by simp [Bundle.ownAtoms, hx]))
  have hfound : s.vm.findClass cls = some P1.m.cls := findClass_of_methodNamed hP1m
  cases Option.some.inj (hfoundX.symm.trans hfound)
  obtain ⟨c1, kX', hc1, hk, hord, -, -, hn6⟩ := Cond.instantiable_spec (a' (.instantiable cls 6) (by simp [Bundle.ownAtoms]))
  cases Option.some.inj (hc1.symm.trans hfound)
  cases Option.some.inj (hkX.symm.trans hk)
  have hsel0 : selectMethod e.platform s.vm P1.m.cls T.fill0 = .method T.fill0 := by
    obtain ⟨c2, r2, m2, q1, q2, q3, q4, -⟩ := Cond.selects_spec (a' (.selects cls Bundle.tFill0 Bundle.tFill0) (by simp [Bundle.ownAtoms]))
    cases Option.some.inj (q1.symm.trans hfound)
    cases Option.some.inj (q2.symm.trans (State.methodFound?_of_named Y.fill0 (by decide)))
    cases Option.some.inj (q3.symm.trans Y.fill0)
    rw [Launch.admits_selectMethod X.admits]; exact q4
  have hselF : selectMethod e.platform s.vm P1.m.cls T.fill = .method T.fill := by
    obtain ⟨c2, r2, m2, q1, q2, q3, q4, -⟩ := Cond.selects_spec (a' (.selects cls Bundle.tFill Bundle.tFill) (by simp [Bundle.ownAtoms]))
    cases Option.some.inj (q1.symm.trans hfound)
    cases Option.some.inj (q2.symm.trans (State.methodFound?_of_named Y.fill (by decide)))
    cases Option.some.inj (q3.symm.trans Y.fill)
    rw [Launch.admits_selectMethod X.admits]; exact q4
  obtain ⟨cellS0, hcS0, hiss⟩ := Y.statics
  obtain ⟨u0, hu0⟩ := Cond.staticRefV Y.unassigned L.unassignedStatic L.statics hcS0 hiss (a' (.isRef (.static Bundle.tN "UNASSIGNED_STACK" Bundle.steD)) (by simp [Bundle.ownAtoms]))
  obtain ⟨sen, hsen⟩ := Cond.staticRefV Y.sentinel L.sentinelStatic L.statics hcS0 hiss (a' (.isRef (.static Bundle.tN "SUPPRESSED_SENTINEL" Bundle.listD)) (by simp [Bundle.ownAtoms]))
  obtain ⟨ci198, i198, fB, hk198, hg198, ha198, hsB, -, hnB, htB, hffB⟩ := Cond.ownField (t := .object "java/lang/Object") Y.found L.cls (by decide +kernel) (a' (.fieldLink Bundle.tN 198 Bundle.tN "backtrace" "Ljava/lang/Object;") (by simp [Bundle.ownAtoms])) (a' (.lays Bundle.tN Bundle.tN "backtrace" "Ljava/lang/Object;") (by simp [Bundle.ownAtoms])) e.platform hpl
  obtain ⟨cellS, hcS', heS, -, hkeep⟩ := X.same.2.2.2.2.2 T.aS cellS0 hcS0
  have hcellS : W.heap[T.aS]? = some cellS := hcS'
  have hout' : ∀ i, (⟨T.aS, i⟩ : Loc) ∉ locs := fun i hmem => by
    have := hlocs _ hmem cellS0 hcS0
    rw [hiss] at this; cases this
  have hknownS : cellS.vm ≠ .unknown := by
    rw [heS]; intro hu
    rw [show cellS0.vm = .unknown from hu] at hiss
    cases hiss
  have hneS : T.aS ≠ a := Nat.ne_of_lt (Nat.lt_of_lt_of_le (Array.getElem?_eq_some_iff.mp hcS0).1 hnew)
  obtain ⟨iM, hffM⟩ := Y.msg
  obtain ⟨tyC, dC, hdC, hdnC⟩ := Cond.laysAt hfound hk Y.cause (a' (.lays cls Bundle.tN "cause" "Ljava/lang/Throwable;") (by simp [Bundle.ownAtoms]))
  obtain ⟨tyS, dS, hdS, hdnS⟩ := Cond.laysAt hfound hk Y.stack (a' (.lays cls Bundle.tN "stackTrace" Bundle.steD) (by simp [Bundle.ownAtoms]))
  obtain ⟨tyP, dP, hdP, hdnP⟩ := Cond.laysAt hfound hk Y.supp (a' (.lays cls Bundle.tN "suppressedExceptions" Bundle.listD) (by simp [Bundle.ownAtoms]))
  obtain ⟨tyM, dM, hdM, hdnM⟩ := Cond.laysAt hfound hk hffM (a' (.lays cls Bundle.tN "detailMessage" "Ljava/lang/String;") (by simp [Bundle.ownAtoms]))
  obtain ⟨tyB, dB, hdB, hdnB⟩ := Cond.laysAt hfound hk hffB (a' (.lays cls Bundle.tN "backtrace" "Ljava/lang/Object;") (by simp [Bundle.ownAtoms]))
  have bC := Cond.laysApart hdB hdC hdnB hdnC (by rw [hnB, Y.causeName]; decide)
  have bS := Cond.laysApart hdB hdS hdnB hdnS (by rw [hnB, Y.stackName]; decide)
  have bP := Cond.laysApart hdB hdP hdnB hdnP (by rw [hnB, Y.suppName]; decide)
  have hskip : SkipFacts T e.platform s (fun u => u) u0 ((preparedCellV T.toThrowableT (freshCell P1.m.cls kX) a u0 sen).withEntry W.cur) :=
    ⟨{ ci198 := ci198, i198 := i198, fBack := fB }, ⟨hk198, hg198, ha198, hsB⟩, by
      have := fresh_default (c := P1.m.cls) tyB
      rw [htB] at this
      simpa [preparedCellV, Cell.setSlot, Cell.withEntry, Array.getElem?_setIfInBounds, bC, bS, bP, bC.symm, bS.symm, bP.symm, defaultValue] using this, fun _ _ => rfl⟩
  obtain ⟨tm, methC, cdC, kC, vm₁, hnC, -, -, -, -, -, -, -, hW₁, st1⟩ := Steps.initColdS (tb := p.tables) (e := e) (below := below) (s := s) (U := W) X.here hexec X.warmed hpl hown (t := Bundle.initS cls) rfl rfl (Bundle.fit_spec hcls).2
    (a' (.methodLink own ic (Bundle.initS cls)) (by simp [Bundle.ownAtoms])) (h (.instanceMethod (Bundle.initS cls)) (by cases names <;> simp [Bundle.ownAtoms, Bundle.chainSAtoms, Bundle.passSAtoms])) (bytes := Bundle.six) (maxL := 2) (h (.code (Bundle.initS cls) Bundle.six 2 none) (by cases names <;> simp [Bundle.ownAtoms, Bundle.chainSAtoms, Bundle.passSAtoms]))
    (f := g) hg (a := a) (msg := msg) (rest := .ref a :: rest) hstack hd6
  cases Option.some.inj (hnC.symm.trans hP1m)
  have X₁ := X.noted hW₁
  obtain ⟨vm₂, X₂, st2⟩ := X₁.ctorMessageOffV hexec (g := { g with stack := .ref a :: rest }) hg hsize T L Z LZ M LM (P1 :: Ps)
    (fun P hP => by rcases List.mem_cons.mp hP with rfl | hP; exact L1; exact hL P hP) ⟨hlink1, hlink⟩ (u0 := u0) (sen := sen) (self := a) hmsg (cell := freshCell P1.m.cls kX) (cellS := cellS)
    hcell (fun _ => by simp) (by simp) rfl rfl hsel0 hselF hcellS hneS hknownS (by rw [hkeep _ (hout' _)]; exact hu0) (by rw [hkeep _ (hout' _)]; exact hsen)
    (Takes.of_laid hk hord tyC (by rw [Y.causeType]; rfl)) (Takes.of_laid hk hord tyS (by rw [Y.stackType]; exact fits_refV_array _ u0)) (Takes.of_laid hk hord tyP (by rw [Y.suppType]; exact fits_refV_object _ sen))
    (Takes.of_laid hk hord tyM (by rw [Y.msgType]; exact fits_refV_object _ ⟨msg, hmsg⟩)) Y.objLocals hskip htr [] hd6
    (by simp only [List.length_cons, hlen]; omega) (by simp only [List.length_cons, hlen]; exact hRlocals)
  have hlt : a < ((W.setVm vm₁).setVm vm₂).heap.size := (Array.getElem?_eq_some_iff.mp hcell).1
  refine ⟨(W.setVm vm₁).setVm vm₂, _, _, X₂, fun y hy => ?_, hlt, rfl, rfl, fun target hwalk => st1 _ (fun acts => ?_)⟩
  · simp only [List.mem_cons, List.not_mem_nil, or_false] at hy
    rcases hy with rfl | rfl | rfl | rfl | rfl <;> rfl
  · rw [doInvoke_state]
    exact st2 _ hwalk
set_option maxHeartbeats 1000000 in
theorem vx_ctorMade0 (X : Stand p l e R s m₀ args below meth c W locs cells slots) (hexec : p.tables.exec = Jvm.exec) (htr : e.platform.stackTraces = false) {own cls : String} {names : List String} {ic : Nat}
    (hown : s.vm.findClass own = some m₀.cls) (hcls : Bundle.fit cls = true) (hnames : ∀ n ∈ names, Bundle.fit n = true)
    (h : ∀ a ∈ Bundle.ownAtoms0 own ic cls names, a.before args s = true)
    (hlocs : ∀ x ∈ locs, ∀ cell, s.heap[x.base]? = some cell → cell.vm.isStatics = false)
    {a : Addr} {cX : ClassId} {kX : Class} (hfoundX : s.vm.findClass cls = some cX) (hkX : s.vm.classes[cX]? = some kX) (hcell : W.heap[a]? = some (freshCell cX kX)) (hnew : s.heap.size ≤ a)
    {g : JFrame} (hg : g.method = m₀) (hsize : g.locals.size = c.maxLocals) {rest : List Value} (hstack : g.stack = .ref a :: .ref a :: rest)
    (hd6 : decode c.code g.pc = .ok (.invokespecial ic, 3))
    (hRframes : names.length + 3 < R.frames) (hRlocals : 2 * g.monitorRoom + ((Value.ref a :: rest).map fun v => v.category).sum + (13 * (names.length + 1) + 41) ≤ R.locals) :
    ∃ (V : State) (ce : Cell) (L : List Loc), Stand p l e R s m₀ args below meth c (V.setCell a ce) (locs ++ L) cells slots ∧ (∀ y ∈ L, y.base = a) ∧ a < V.heap.size ∧ ce.cls = cX ∧ ce.vm = .none ∧
      ∀ target, Steps p.tables e below ((V.setCell a ce).setTop { g with stack := .ref a :: rest, pc := g.pc + 3 }) target → Steps p.tables e below (W.setTop g) target := by
  have howns : e.platform.frameOwnsMonitors = true := by rw [X.admits.platform]
  have hfin : e.platform.finalization = false := by rw [X.admits.platform]
  have hpl : e.platform.magicAccessors = ({} : Platform).magicAccessors := by rw [X.admits.platform]
  have a' : ∀ x, x ∈ Bundle.ownAtoms0 own ic cls names → x.holds args s none s [] = true := fun x hx => h x hx
  obtain ⟨T, Z, L, LZ, Y⟩ := ThrowableC.of_atoms (args := args) howns hfin hpl (fun x hx => h x (by simp [Bundle.ownAtoms0, hx]))
  obtain ⟨P1, Ps, hlen, L1, hL, hP1m, hlink1, hlink⟩ := Bundle.chain0 (args := args) hpl Y.init0 names cls hcls hnames (fun x hx => h x (by simp [Bundle.ownAtoms0, hx]))
  have hfound : s.vm.findClass cls = some P1.m.cls := findClass_of_methodNamed hP1m
  cases Option.some.inj (hfoundX.symm.trans hfound)
  obtain ⟨c1, kX', hc1, hk, hord, -, -, hn6⟩ := Cond.instantiable_spec (a' (.instantiable cls 6) (by simp [Bundle.ownAtoms0]))
  cases Option.some.inj (hc1.symm.trans hfound)
  cases Option.some.inj (hkX.symm.trans hk)
  have hsel0 : selectMethod e.platform s.vm P1.m.cls T.fill0 = .method T.fill0 := by
    obtain ⟨c2, r2, m2, q1, q2, q3, q4, -⟩ := Cond.selects_spec (a' (.selects cls Bundle.tFill0 Bundle.tFill0) (by simp [Bundle.ownAtoms0]))
    cases Option.some.inj (q1.symm.trans hfound)
    cases Option.some.inj (q2.symm.trans (State.methodFound?_of_named Y.fill0 (by decide)))
    cases Option.some.inj (q3.symm.trans Y.fill0)
    rw [Launch.admits_selectMethod X.admits]; exact q4
  have hselF : selectMethod e.platform s.vm P1.m.cls T.fill = .method T.fill := by
    obtain ⟨c2, r2, m2, q1, q2, q3, q4, -⟩ := Cond.selects_spec (a' (.selects cls Bundle.tFill Bundle.tFill) (by simp [Bundle.ownAtoms0]))
    cases Option.some.inj (q1.symm.trans hfound)
    cases Option.some.inj (q2.symm.trans (State.methodFound?_of_named Y.fill (by decide)))
    cases Option.some.inj (q3.symm.trans Y.fill)
    rw [Launch.admits_selectMethod X.admits]; exact q4
  obtain ⟨cellS0, hcS0, hiss⟩ := Y.statics
  obtain ⟨u0, hu0⟩ := Cond.staticRefV Y.unassigned L.unassignedStatic L.statics hcS0 hiss (a' (.isRef (.static Bundle.tN "UNASSIGNED_STACK" Bundle.steD)) (by simp [Bundle.ownAtoms0]))
  obtain ⟨sen, hsen⟩ := Cond.staticRefV Y.sentinel L.sentinelStatic L.statics hcS0 hiss (a' (.isRef (.static Bundle.tN "SUPPRESSED_SENTINEL" Bundle.listD)) (by simp [Bundle.ownAtoms0]))
  obtain ⟨ci198, i198, fB, hk198, hg198, ha198, hsB, -, hnB, htB, hffB⟩ := Cond.ownField (t := .object "java/lang/Object") Y.found L.cls (by decide +kernel) (a' (.fieldLink Bundle.tN 198 Bundle.tN "backtrace" "Ljava/lang/Object;") (by simp [Bundle.ownAtoms0])) (a' (.lays Bundle.tN Bundle.tN "backtrace" "Ljava/lang/Object;") (by simp [Bundle.ownAtoms0])) e.platform hpl
  obtain ⟨cellS, hcS', heS, -, hkeep⟩ := X.same.2.2.2.2.2 T.aS cellS0 hcS0
  have hcellS : W.heap[T.aS]? = some cellS := hcS'
  have hout' : ∀ i, (⟨T.aS, i⟩ : Loc) ∉ locs := fun i hmem => by
    have := hlocs _ hmem cellS0 hcS0
    rw [hiss] at this; cases this
  have hknownS : cellS.vm ≠ .unknown := by
    rw [heS]; intro hu
    rw [show cellS0.vm = .unknown from hu] at hiss
    cases hiss
  have hneS : T.aS ≠ a := Nat.ne_of_lt (Nat.lt_of_lt_of_le (Array.getElem?_eq_some_iff.mp hcS0).1 hnew)
  obtain ⟨iM, hffM⟩ := Y.msg
  obtain ⟨tyC, dC, hdC, hdnC⟩ := Cond.laysAt hfound hk Y.cause (a' (.lays cls Bundle.tN "cause" "Ljava/lang/Throwable;") (by simp [Bundle.ownAtoms0]))
  obtain ⟨tyS, dS, hdS, hdnS⟩ := Cond.laysAt hfound hk Y.stack (a' (.lays cls Bundle.tN "stackTrace" Bundle.steD) (by simp [Bundle.ownAtoms0]))
  obtain ⟨tyP, dP, hdP, hdnP⟩ := Cond.laysAt hfound hk Y.supp (a' (.lays cls Bundle.tN "suppressedExceptions" Bundle.listD) (by simp [Bundle.ownAtoms0]))
  obtain ⟨tyM, dM, hdM, hdnM⟩ := Cond.laysAt hfound hk hffM (a' (.lays cls Bundle.tN "detailMessage" "Ljava/lang/String;") (by simp [Bundle.ownAtoms0]))
  obtain ⟨tyB, dB, hdB, hdnB⟩ := Cond.laysAt hfound hk hffB (a' (.lays cls Bundle.tN "backtrace" "Ljava/lang/Object;") (by simp [Bundle.ownAtoms0]))
  have bC := Cond.laysApart hdB hdC hdnB hdnC (by rw [hnB, Y.causeName]; decide)
  have bS := Cond.laysApart hdB hdS hdnB hdnS (by rw [hnB, Y.stackName]; decide)
  have bP := Cond.laysApart hdB hdP hdnB hdnP (by rw [hnB, Y.suppName]; decide)
  have hskip : SkipFacts T e.platform s (fun u => u) u0 ((preparedCellV T.toThrowableT (freshCell P1.m.cls kX) a u0 sen).withEntry W.cur) :=
    ⟨{ ci198 := ci198, i198 := i198, fBack := fB }, ⟨hk198, hg198, ha198, hsB⟩, by
      have := fresh_default (c := P1.m.cls) tyB
      rw [htB] at this
      simpa [preparedCellV, Cell.setSlot, Cell.withEntry, Array.getElem?_setIfInBounds, bC, bS, bP, bC.symm, bS.symm, bP.symm, defaultValue] using this, fun _ _ => rfl⟩
  obtain ⟨tm, methC, cdC, kC, vm₁, hnC, -, -, -, -, -, -, -, hW₁, st1⟩ := Steps.initCold (tb := p.tables) (e := e) (below := below) (s := s) (U := W) X.here hexec X.warmed hpl hown (t := Bundle.init0 cls) rfl rfl (Bundle.fit_spec hcls).2
    (a' (.methodLink own ic (Bundle.init0 cls)) (by simp [Bundle.ownAtoms0])) (h (.instanceMethod (Bundle.init0 cls)) (by cases names <;> simp [Bundle.ownAtoms0, Bundle.chain0Atoms, Bundle.passAtoms])) (bytes := Bundle.five) (maxL := 1) (h (.code (Bundle.init0 cls) Bundle.five 1 none) (by cases names <;> simp [Bundle.ownAtoms0, Bundle.chain0Atoms, Bundle.passAtoms]))
    (f := g) hg (a := a) (rest := .ref a :: rest) hstack hd6
  cases Option.some.inj (hnC.symm.trans hP1m)
  have X₁ := X.noted hW₁
  obtain ⟨vm₂, X₂, st2⟩ := X₁.ctorPlainOffV hexec (g := { g with stack := .ref a :: rest }) hg hsize T L Z LZ (P1 :: Ps)
    (fun P hP => by rcases List.mem_cons.mp hP with rfl | hP; exact L1; exact hL P hP) ⟨hlink1, hlink⟩ (u0 := u0) (sen := sen) (self := a) (cell := freshCell P1.m.cls kX) (cellS := cellS)
    hcell (fun _ => by simp) (by simp) rfl rfl hsel0 hselF hcellS hneS hknownS (by rw [hkeep _ (hout' _)]; exact hu0) (by rw [hkeep _ (hout' _)]; exact hsen)
    (Takes.of_laid hk hord tyC (by rw [Y.causeType]; rfl)) (Takes.of_laid hk hord tyS (by rw [Y.stackType]; exact fits_refV_array _ u0)) (Takes.of_laid hk hord tyP (by rw [Y.suppType]; exact fits_refV_object _ sen)) Y.objLocals hskip htr [] hd6
    (by simp only [List.length_cons, hlen]; omega) (by simp only [List.length_cons, hlen]; exact hRlocals)
  have hlt : a < ((W.setVm vm₁).setVm vm₂).heap.size := (Array.getElem?_eq_some_iff.mp hcell).1
  refine ⟨(W.setVm vm₁).setVm vm₂, _, _, X₂, fun y hy => ?_, hlt, rfl, rfl, fun target hwalk => st1 _ (fun acts => ?_)⟩
  · simp only [List.mem_cons, List.not_mem_nil, or_false] at hy
    rcases hy with rfl | rfl | rfl | rfl <;> rfl
  · rw [doInvoke_state]
    exact st2 _ hwalk
end VXK
section VXK2
variable {p : Program} {l : Launch} {e : Env} {R : Room} {s : State} {m : MethodId} {args : Array Value} {below : List Frame} {meth : Method} {c : Code} {H : Heap} {locs : List Loc} {cells slots : Nat} {Q : State → Prop}
variable {ls : Array Slot} {rest : List Value} {D : va_G} {cl : List vw_C} {tys : List (ClassId × FieldType)} {ws : va_W}
/-- 'new E("text")' that isn't thrown at once: the object goes on the stack -/
theorem vx_makeS {cc : ByteArray} {pc : Nat} (hexec : p.tables.exec = Jvm.exec) (hb : c.code = cc) (hl : l.stackTraces = false) {own cls text : String} {names : List String} {ik is ic sa ci : Nat} {A : Nat → Prop} {T0 : u_T}
    (hown : s.vm.findClass own = some m.cls) (hcls : Bundle.fit cls = true) (hnames : ∀ n ∈ names, Bundle.fit n = true)
    (hk : (Cond.classLink own ik cls).before args s = true) (hini : (Cond.initialized cls).before args s = true) (hstr : vk_R own is text sa s) (hat : ∀ w ∈ vx_atS own ic cls names, w.before args s = true)
    (hgood : ∀ w ∈ Cond.classLink own ik cls :: Cond.initialized cls :: vx_atS own ic cls names, vx_ot w = true)
    (hU : vx_Zq Bundle.tN "UNASSIGNED_STACK" Bundle.steD A s s.heap) (hN : vx_Zq Bundle.tN "SUPPRESSED_SENTINEL" Bundle.listD A s s.heap) (hS : va_S A s.heap H locs) (hsize : ls.size = c.maxLocals)
    (d0 : decode cc pc = .ok (.new ik, 3)) (d3 : decode cc (pc + 3) = .ok (.dup, 1)) (d4 : decode cc (pc + 4) = .ok (.ldc is, 2)) (d6 : decode cc (pc + 6) = .ok (.invokespecial ic, 3))
    (hK : va_K D cl tys s) (hP : va_P D cl ws H) (hD : va_D A ws) (hA : ∀ q, s.heap.size ≤ q → A q) (hc : cl[ci]? = some (cls, T0, 0))
    (hRframes : names.length + 3 < R.frames) (hRlocals : (rest.map fun v => v.category).sum + (13 * (names.length + 1) + 43) ≤ R.locals) (hRcells : cells + 1 ≤ R.cells) (hRslots : slots + 6 ≤ R.slots)
    (kk : ∀ (q : Nat) (H1 : Heap), va_P D cl (ws ++ [(q, .inr (ci, []))]) H1 → va_D A (ws ++ [(q, .inr (ci, []))]) → va_S A s.heap H1 locs → W p l e R s m args below meth c H1 locs (cells + 1) (slots + 6) Q (F0 m (pc + 9) ls (.ref q :: rest))) :
    W p l e R s m args below meth c H locs cells slots Q (F0 m pc ls rest) := by
  intro T hT X
  subst hT
  have htr : e.platform.stackTraces = false := (show e.platform.stackTraces = l.stackTraces by rw [X.admits.platform]).trans hl
  have Y := vx_rebase X (R' := { frames := R.frames, locals := R.locals, cells := 1, slots := 6 }) (Nat.le_refl _) (Nat.le_refl _) hRcells hRslots
  obtain ⟨s', hA'⟩ : ∃ z, z = (T.setVm s.vm).setFrames (.invoking m args :: below) := ⟨_, rfl⟩
  rw [← hA'] at Y
  have hvm : s'.vm = s.vm := by rw [hA']; rfl
  have hhp : s'.heap = T.heap := by rw [hA']; rfl
  have hW0 : s.WarmedH s'.vm := by rw [hvm]; exact State.WarmedH.refl s
  have hat' : ∀ w ∈ vx_atS own ic cls names, w.before args s' = true := fun w hw => vx_ot_at hW0 hvm.symm (hgood w (List.mem_cons_of_mem _ (List.mem_cons_of_mem _ hw))) (hat w hw)
  have hk' : (Cond.classLink own ik cls).before args s' = true := vx_ot_at hW0 hvm.symm (hgood _ List.mem_cons_self) hk
  have hini' : (Cond.initialized cls).before args s' = true := vx_ot_at hW0 hvm.symm (hgood _ (List.mem_cons_of_mem _ List.mem_cons_self)) hini
  have hU' : vx_Zq Bundle.tN "UNASSIGNED_STACK" Bundle.steD A s' s'.heap := by rw [hhp]; exact vx_Zq.moved hW0.alike (hU.kept hS.2.1)
  have hN' : vx_Zq Bundle.tN "SUPPRESSED_SENTINEL" Bundle.listD A s' s'.heap := by rw [hhp]; exact vx_Zq.moved hW0.alike (hN.kept hS.2.1)
  have h : ∀ w ∈ Bundle.ownAtoms own ic cls names, w.before args s' = true := vx_own hat' (vx_isRefq hU'.1) (vx_isRefq hN'.1) hU'.2.word hN'.2.word
  have hown' : s'.vm.findClass own = some m.cls := by rw [hvm]; exact hown
  have hins : (Cond.instantiable cls 6).before args s' = true := h _ (by simp [Bundle.ownAtoms])
  obtain ⟨vm₁, cX, kX, hfX, hkX, -, -, X₁, st1⟩ := Y.newCold hexec (own := own) (C := cls) (index := ik) (n := 6) hown' hk' hins hini'
    (g := F0 m pc ls rest) rfl (by rw [hb]; exact d0) (Nat.le_refl _) (Nat.le_refl _)
  generalize hT1 : (T.setVm vm₁).pushCell { cls := cX, slots := kX.instanceTypes.map defaultValue, vm := .none } = T1 at X₁ st1
  have hcat : (Value.ref T.heap.size).category = 1 := rfl
  have hcellA : T1.heap[T.heap.size]? = some (freshCell cX kX) := by rw [← hT1]; exact State.heap_pushCell_size _ _
  have d3' : decode c.code (pc + 3) = .ok (.dup, 1) := by rw [hb]; exact d3
  have d4' : decode c.code (pc + 4) = .ok (.ldc is, 2) := by rw [hb]; exact d4
  have hstr' : vk_R own is text sa s' := vk_R.warm hW0 hstr
  obtain ⟨V, ce, L, Z, hL, hlt, hcl9, hvm9, st⟩ := vx_ctorMadeS X₁ hexec htr (own := own) (cls := cls) (names := names) (ic := ic) hown' hcls hnames h (fun x hx => nomatch hx) hfX hkX hcellA (by rw [hhp]; exact Nat.le_refl _) (msg := .ref sa) rfl
    (g := { method := m, pc := pc + 6, locals := ls, stack := .ref sa :: .ref T.heap.size :: .ref T.heap.size :: rest, locked := none }) rfl hsize (rest := rest) rfl
    (by rw [hb]; exact d6) hRframes (by simp only [List.map_cons, List.sum_cons, hcat]; omega)
  have Z0 := Stand.forget (locs := []) Z (fun y hy => by rw [hL y hy, hhp]; exact Nat.le_refl _)
  obtain ⟨f1, f2⟩ := vx_frame Z0.same
  rw [hhp] at f1 f2
  have hcid : ce.cls = D.1 ci := by
    rw [hcl9]
    have h1 := (hK.1 ci _ hc).2.1
    rw [hvm] at hfX
    exact Option.some.inj (hfX.symm.trans h1)
  have hh : (V.setCell T.heap.size ce).heap[T.heap.size]? = some ce := heapAt_setCell_self (s := V) ce hlt
  subst hA'
  have X5 := vx_back9 X Y Z0
  have X6 : Stand p l e R s m args below meth c (V.setCell T.heap.size ce) locs (cells + 1) (slots + 6) := { X5 with same := X5.same.mono (by omega) (by omega) }
  have hk9 : ∀ (k : Nat) (x : Nat × va_E), ws[k]? = some x → (V.setCell T.heap.size ce).heap[x.1]? = T.heap[x.1]? := fun k x hx => f2 x.1 ((hP k x hx).lt) (fun z hz => nomatch hz)
  obtain ⟨t, a1, b1⟩ := kk T.heap.size (V.setCell T.heap.size ce).heap ((hP.kept hk9).app (fun k x hx => by
      have hz : k < 1 := (List.getElem?_eq_some_iff.mp hx).1
      rw [show k = 0 by omega] at hx
      cases hx
      exact ⟨_, hc, ce, hh, hcid, hvm9, fun k hk => absurd hk (Nat.not_lt_zero k)⟩)) (hD.push hP rfl (hA _ hS.1)) ⟨Nat.le_trans hS.1 f1, fun q h1 h2 => (f2 q (Nat.lt_of_lt_of_le h1 hS.1) (fun z hz => nomatch hz)).trans (hS.2.1 q h1 h2), hS.2.2⟩ _ rfl X6
  refine ⟨t, st1 _ ?_, b1⟩
  show Steps p.tables e below (T1.setTop { method := m, pc := pc + 3, locals := ls, stack := .ref T.heap.size :: rest, locked := none }) _
  jvm_step X₁.here [X₁.here.top, hexec, d3', Value.category]
  exact X₁.ldcString hexec (own := own) (text := text) (index := is) (a := sa) hown' hstr'.1 hstr'.2
    (g := { method := m, pc := pc + 4, locals := ls, stack := .ref T.heap.size :: .ref T.heap.size :: rest, locked := none }) rfl d4' _ (st _ a1)
/-- 'new E()' that isn't thrown at once: the object goes on the stack -/
theorem vx_make0 {cc : ByteArray} {pc : Nat} (hexec : p.tables.exec = Jvm.exec) (hb : c.code = cc) (hl : l.stackTraces = false) {own cls : String} {names : List String} {ik ic ci : Nat} {A : Nat → Prop} {T0 : u_T}
    (hown : s.vm.findClass own = some m.cls) (hcls : Bundle.fit cls = true) (hnames : ∀ n ∈ names, Bundle.fit n = true)
    (hk : (Cond.classLink own ik cls).before args s = true) (hini : (Cond.initialized cls).before args s = true) (hat : ∀ w ∈ vx_at0 own ic cls names, w.before args s = true)
    (hgood : ∀ w ∈ Cond.classLink own ik cls :: Cond.initialized cls :: vx_at0 own ic cls names, vx_ot w = true)
    (hU : vx_Zq Bundle.tN "UNASSIGNED_STACK" Bundle.steD A s s.heap) (hN : vx_Zq Bundle.tN "SUPPRESSED_SENTINEL" Bundle.listD A s s.heap) (hS : va_S A s.heap H locs) (hsize : ls.size = c.maxLocals)
    (d0 : decode cc pc = .ok (.new ik, 3)) (d3 : decode cc (pc + 3) = .ok (.dup, 1)) (d4 : decode cc (pc + 4) = .ok (.invokespecial ic, 3))
    (hK : va_K D cl tys s) (hP : va_P D cl ws H) (hD : va_D A ws) (hA : ∀ q, s.heap.size ≤ q → A q) (hc : cl[ci]? = some (cls, T0, 0))
    (hRframes : names.length + 3 < R.frames) (hRlocals : (rest.map fun v => v.category).sum + (13 * (names.length + 1) + 42) ≤ R.locals) (hRcells : cells + 1 ≤ R.cells) (hRslots : slots + 6 ≤ R.slots)
    (kk : ∀ (q : Nat) (H1 : Heap), va_P D cl (ws ++ [(q, .inr (ci, []))]) H1 → va_D A (ws ++ [(q, .inr (ci, []))]) → va_S A s.heap H1 locs → W p l e R s m args below meth c H1 locs (cells + 1) (slots + 6) Q (F0 m (pc + 7) ls (.ref q :: rest))) :
    W p l e R s m args below meth c H locs cells slots Q (F0 m pc ls rest) := by
  intro T hT X
  subst hT
  have htr : e.platform.stackTraces = false := (show e.platform.stackTraces = l.stackTraces by rw [X.admits.platform]).trans hl
  have Y := vx_rebase X (R' := { frames := R.frames, locals := R.locals, cells := 1, slots := 6 }) (Nat.le_refl _) (Nat.le_refl _) hRcells hRslots
  obtain ⟨s', hA'⟩ : ∃ z, z = (T.setVm s.vm).setFrames (.invoking m args :: below) := ⟨_, rfl⟩
  rw [← hA'] at Y
  have hvm : s'.vm = s.vm := by rw [hA']; rfl
  have hhp : s'.heap = T.heap := by rw [hA']; rfl
  have hW0 : s.WarmedH s'.vm := by rw [hvm]; exact State.WarmedH.refl s
  have hat' : ∀ w ∈ vx_at0 own ic cls names, w.before args s' = true := fun w hw => vx_ot_at hW0 hvm.symm (hgood w (List.mem_cons_of_mem _ (List.mem_cons_of_mem _ hw))) (hat w hw)
  have hk' : (Cond.classLink own ik cls).before args s' = true := vx_ot_at hW0 hvm.symm (hgood _ List.mem_cons_self) hk
  have hini' : (Cond.initialized cls).before args s' = true := vx_ot_at hW0 hvm.symm (hgood _ (List.mem_cons_of_mem _ List.mem_cons_self)) hini
  have hU' : vx_Zq Bundle.tN "UNASSIGNED_STACK" Bundle.steD A s' s'.heap := by rw [hhp]; exact vx_Zq.moved hW0.alike (hU.kept hS.2.1)
  have hN' : vx_Zq Bundle.tN "SUPPRESSED_SENTINEL" Bundle.listD A s' s'.heap := by rw [hhp]; exact vx_Zq.moved hW0.alike (hN.kept hS.2.1)
  have h : ∀ w ∈ Bundle.ownAtoms0 own ic cls names, w.before args s' = true := vx_own hat' (vx_isRefq hU'.1) (vx_isRefq hN'.1) hU'.2.word hN'.2.word
  have hown' : s'.vm.findClass own = some m.cls := by rw [hvm]; exact hown
  have hins : (Cond.instantiable cls 6).before args s' = true := h _ (by simp [Bundle.ownAtoms0])
  obtain ⟨vm₁, cX, kX, hfX, hkX, -, -, X₁, st1⟩ := Y.newCold hexec (own := own) (C := cls) (index := ik) (n := 6) hown' hk' hins hini'
    (g := F0 m pc ls rest) rfl (by rw [hb]; exact d0) (Nat.le_refl _) (Nat.le_refl _)
  generalize hT1 : (T.setVm vm₁).pushCell { cls := cX, slots := kX.instanceTypes.map defaultValue, vm := .none } = T1 at X₁ st1
  have hcat : (Value.ref T.heap.size).category = 1 := rfl
  have hcellA : T1.heap[T.heap.size]? = some (freshCell cX kX) := by rw [← hT1]; exact State.heap_pushCell_size _ _
  have d3' : decode c.code (pc + 3) = .ok (.dup, 1) := by rw [hb]; exact d3
  obtain ⟨V, ce, L, Z, hL, hlt, hcl9, hvm9, st⟩ := vx_ctorMade0 X₁ hexec htr (own := own) (cls := cls) (names := names) (ic := ic) hown' hcls hnames h (fun x hx => nomatch hx) hfX hkX hcellA (by rw [hhp]; exact Nat.le_refl _)
    (g := { method := m, pc := pc + 4, locals := ls, stack := .ref T.heap.size :: .ref T.heap.size :: rest, locked := none }) rfl hsize (rest := rest) rfl
    (by rw [hb]; exact d4) hRframes (by simp only [List.map_cons, List.sum_cons, hcat]; omega)
  have Z0 := Stand.forget (locs := []) Z (fun y hy => by rw [hL y hy, hhp]; exact Nat.le_refl _)
  obtain ⟨f1, f2⟩ := vx_frame Z0.same
  rw [hhp] at f1 f2
  have hcid : ce.cls = D.1 ci := by
    rw [hcl9]
    have h1 := (hK.1 ci _ hc).2.1
    rw [hvm] at hfX
    exact Option.some.inj (hfX.symm.trans h1)
  have hh : (V.setCell T.heap.size ce).heap[T.heap.size]? = some ce := heapAt_setCell_self (s := V) ce hlt
  subst hA'
  have X5 := vx_back9 X Y Z0
  have X6 : Stand p l e R s m args below meth c (V.setCell T.heap.size ce) locs (cells + 1) (slots + 6) := { X5 with same := X5.same.mono (by omega) (by omega) }
  have hk9 : ∀ (k : Nat) (x : Nat × va_E), ws[k]? = some x → (V.setCell T.heap.size ce).heap[x.1]? = T.heap[x.1]? := fun k x hx => f2 x.1 ((hP k x hx).lt) (fun z hz => nomatch hz)
  obtain ⟨t, a1, b1⟩ := kk T.heap.size (V.setCell T.heap.size ce).heap ((hP.kept hk9).app (fun k x hx => by
      have hz : k < 1 := (List.getElem?_eq_some_iff.mp hx).1
      rw [show k = 0 by omega] at hx
      cases hx
      exact ⟨_, hc, ce, hh, hcid, hvm9, fun k hk => absurd hk (Nat.not_lt_zero k)⟩)) (hD.push hP rfl (hA _ hS.1)) ⟨Nat.le_trans hS.1 f1, fun q h1 h2 => (f2 q (Nat.lt_of_lt_of_le h1 hS.1) (fun z hz => nomatch hz)).trans (hS.2.1 q h1 h2), hS.2.2⟩ _ rfl X6
  refine ⟨t, st1 _ ?_, b1⟩
  show Steps p.tables e below (T1.setTop { method := m, pc := pc + 3, locals := ls, stack := .ref T.heap.size :: rest, locked := none }) _
  jvm_step X₁.here [X₁.here.top, hexec, d3', Value.category]
  exact st _ a1
/-- 'throw x' of an object that was made before -/
theorem vx_athrow {cc : ByteArray} {pc : Nat} (hexec : p.tables.exec = Jvm.exec) (hb : c.code = cc) {q : Addr} (hdg : decode cc pc = .ok (.athrow, 1)) (k : vx_W p l e R s m args below meth c H locs cells slots Q (F0 m pc ls rest) q) : W p l e R s m args below meth c H locs cells slots Q (F0 m pc ls (.ref q :: rest)) := by
  intro T hT X
  obtain ⟨t, st, hq⟩ := k T hT X
  refine ⟨t, ?_, hq⟩
  have hdg' : decode c.code pc = .ok (.athrow, 1) := by rw [hb]; exact hdg
  jvm_step X.here [X.here.top, hexec, hdg', athrow.wp_sem]
  exact st
end VXK2
/-! ===== END ===== -/
/-! ===== BEGIN a constructor that throws (launches without stack traces) ===== -/
section VXIA
variable {p : Program} {l : Launch} {e : Env} {R : Room} {s : State} {m : MethodId} {args : Array Value} {below : List Frame} {meth : Method} {c : Code} {T : State} {locs : List Loc} {cells slots : Nat}
theorem vx_callI (X : Stand p l e R s m args below meth c T locs cells slots) (hexec : p.tables.exec = Jvm.exec) {own : String} {index : Nat} {y : MethodName} {bytes : ByteArray} {maxL : Nat}
    (hown : s.vm.findClass own = some m.cls) (hy1 : y.name = "<init>") (hlink : (Cond.methodLink own index y).before args s = true) (hinst : (Cond.instanceMethod y).before args s = true)
    (hcode : (Cond.code y bytes maxL none).before args s = true) (hy : y.cls ≠ "java/lang/invoke/MethodHandle" ∧ y.cls ≠ "java/lang/invoke/VarHandle")
    {W9 : Nat} {Pre : Pt → Array Value → Prop} {Post : Pt → Array Value → Option Value → Pt → Prop} {PostX : Pt → Array Value → Addr → Pt → Prop} (hK : vx_Back l R p e below s args y 3 W9 Pre Post PostX)
    {g : JFrame} (hg : g.method = m) (hsize : g.locals.size = c.maxLocals) {a : Addr} {argsL rest : List Value} (hlen : ∀ sig, parseMethodDescriptor y.desc = some sig → argsL.length = sig.parameters.length)
    (hstack : g.stack = argsL.reverse ++ .ref a :: rest) (hW : 2 * g.monitorRoom + (rest.map fun v => v.category).sum ≤ W9) (hdg : decode c.code g.pc = .ok (.invokespecial index, 3))
    (hpre : ∀ vm₁, s.WarmedH vm₁ → Pre ⟨T.setVm vm₁, locs, cells, slots⟩ (Value.ref a :: argsL).toArray) :
    (∃ (v : Option Value) (vm₁ : Vm) (B : Pt), s.WarmedH vm₁ ∧ Stand p l e R s m args below meth c B.U B.locs B.cells B.slots ∧ Post ⟨T.setVm vm₁, locs, cells, slots⟩ (Value.ref a :: argsL).toArray v B ∧
      ∀ target, Steps p.tables e below (B.U.setTop { g with pc := g.pc + 3, stack := v.toList ++ rest }) target → Steps p.tables e below (T.setTop g) target) ∨
    (∃ (q : Addr) (vm₁ : Vm) (B : Pt), s.WarmedH vm₁ ∧ Stand p l e R s m args below meth c B.U B.locs B.cells B.slots ∧ PostX ⟨T.setVm vm₁, locs, cells, slots⟩ (Value.ref a :: argsL).toArray q B ∧
      Steps p.tables e below (T.setTop g) ((B.U.setTop { g with stack := rest }).pushFrame (.throwing q))) := by
  subst hg
  have hpl : e.platform.magicAccessors = ({} : Platform).magicAccessors := by rw [X.admits.platform]
  obtain ⟨mk, methM, cM, kP, vm₁, hnamed, hmethM, hcodeM, -, hlocalsM, -, hkP, -, hW₁, hstep₁⟩ := Steps.initColdArgs (e := e) X.here hexec X.warmed hpl hown hy1 hy hlink hinst hcode (f := g) rfl hlen hstack hdg
  have X₁ := X.noted hW₁
  rcases hK g.method meth c ⟨T.setVm vm₁, locs, cells, slots⟩ { g with stack := rest } (.invokespecial index) mk (Value.ref a :: argsL).toArray X₁ rfl hsize hdg hW (X₁.named hnamed) (hpre vm₁ X₁.warmed) with ⟨v, B, X', hpost, hsteps⟩ | ⟨q, B, X', hpost, hsteps⟩
  · exact Or.inl ⟨v, vm₁, B, X₁.warmed, X', hpost, fun target h => hstep₁ _ fun acts => by rw [doInvoke_state]; exact hsteps.trans h⟩
  · exact Or.inr ⟨q, vm₁, B, X₁.warmed, X', hpost, hstep₁ _ fun acts => by rw [doInvoke_state]; exact hsteps⟩
end VXIA
section VXIB
variable {p : Program} {l : Launch} {e : Env} {R : Room} {s : State} {m : MethodId} {args : Array Value} {below : List Frame} {meth : Method} {c : Code} {H : Heap} {locs : List Loc} {cells slots : Nat}
variable {y : MethodName} {bytes cc : ByteArray} {maxL nL mc ms n index : Nat} {ret : Option FieldType} {ws : List Cond} {rm : Room} {Pc : Array Value → State → Prop} {Qc : Array Value → State → Outcome → State → Prop} {XC : String → State → State → Prop} {free : Addr → Prop} {Ts : List Cond} {own C : String} {b : Addr} {As rest : List Value} {g : JFrame}
theorem vx_runI (S : CallFix p m c cc nL s args Ts own) (hM : vx_Met l y ws rm Pc Qc XC mc ms free) (cw : CallB R s args own index y bytes maxL none ws rm mc ms n ∧ y.name = "<init>" ∧ (Cond.instanceMethod y).before args s = true) (hp : PreS s H Pc (.ref b :: As))
    (hg : g.method = m) (hn : As.length = n) (hsize : g.locals.size = nL) (hstack : g.stack = As.reverse ++ .ref b :: rest) (hW : 2 * g.monitorRoom + (rest.map fun v => v.category).sum ≤ 8) (hdg : decode cc g.pc = .ok (.invokespecial index, 3)) (hf : cells + mc ≤ R.cells ∧ slots + ms ≤ R.slots) :
    vx_Run p l e R s m args below meth c H locs cells slots mc ms g rest (Qc (Value.ref b :: As).toArray) XC free := by
  have hK : vx_Back l R p e below s args y 3 8 (PreOf R mc ms Pc) (PostOf Qc mc ms free) (vx_Post XC mc ms free) := vx_callBack cw.1 hM hp.1
  obtain ⟨⟨-, -, -, -, -, -, hcode, -, hy, hlen, hl⟩, hy1, hin⟩ := cw
  obtain ⟨hx, hb, hml, ho, -⟩ := S
  have hPc := hp.2
  intro T hT X
  rcases vx_callI X hx (bytes := bytes) (maxL := maxL) ho hy1 hl hin hcode hy hK hg (hsize.trans hml.symm) (a := b) (argsL := As) (rest := rest) (fun sig h => hn.trans (hlen sig h)) hstack hW (by rw [hb]; exact hdg)
    (fun vm₁ hW₁ => ⟨hf.1, hf.2, hPc (T.setVm vm₁) hT hW₁⟩) with ⟨v, vm₁, ⟨U', l2, c2, s2⟩, hW₁, X', ⟨g', mk, t, L, e1, e2, hq, h1, hL, h2, h3⟩, st⟩ | ⟨q, vm₁, ⟨U', l2, c2, s2⟩, hW₁, X', ⟨g', mk, t, L, E, ce, e1, e2, hq, hce, hcv, hcl, h1, hL, h2, h3⟩, st⟩
  · dsimp only [Pt.U, Pt.locs, Pt.cells, Pt.slots] at X' e1 e2 h1 h2 h3 st
    subst h1; subst h2; subst h3
    exact Or.inl ⟨v, (T.setVm vm₁).calling g' mk (Value.ref b :: As).toArray, t, U', L, hT, X', hL, e1, e2, hq, st⟩
  · dsimp only [Pt.U, Pt.locs, Pt.cells, Pt.slots] at X' e1 e2 h1 h2 h3 st hcl
    subst h1; subst h2; subst h3
    exact Or.inr ⟨q, (T.setVm vm₁).calling g' mk (Value.ref b :: As).toArray, t, U', L, E, ce, hT, X', hL, e1, e2, hq, hce, hcv, vx_cls hW₁ hcl, st⟩
end VXIB
/-! ===== END ===== -/
/-! ===== BEGIN a private constructor of a nest mate that throws ===== -/
section VXIC
variable {p : Program} {l : Launch} {e : Env} {R : Room} {s : State} {m : MethodId} {args : Array Value} {below : List Frame} {meth : Method} {c : Code} {T : State} {locs : List Loc} {cells slots : Nat}
theorem vx_callIN (X : Stand p l e R s m args below meth c T locs cells slots) (hexec : p.tables.exec = Jvm.exec) {own : String} {index : Nat} {host : String} {y : MethodName} {bytes : ByteArray} {maxL : Nat}
    (hown : s.vm.findClass own = some m.cls) (hy1 : y.name = "<init>") (hlink : (Cond.methodLinkNest own index y host).before args s = true) (hinst : (Cond.instanceMethod y).before args s = true)
    (hcode : (Cond.code y bytes maxL none).before args s = true) (hy : y.cls ≠ "java/lang/invoke/MethodHandle" ∧ y.cls ≠ "java/lang/invoke/VarHandle")
    {W9 : Nat} {Pre : Pt → Array Value → Prop} {Post : Pt → Array Value → Option Value → Pt → Prop} {PostX : Pt → Array Value → Addr → Pt → Prop} (hK : vx_Back l R p e below s args y 3 W9 Pre Post PostX)
    {g : JFrame} (hg : g.method = m) (hsize : g.locals.size = c.maxLocals) {a : Addr} {argsL rest : List Value} (hlen : ∀ sig, parseMethodDescriptor y.desc = some sig → argsL.length = sig.parameters.length)
    (hstack : g.stack = argsL.reverse ++ .ref a :: rest) (hW : 2 * g.monitorRoom + (rest.map fun v => v.category).sum ≤ W9) (hdg : decode c.code g.pc = .ok (.invokespecial index, 3))
    (hpre : ∀ vm₁, s.WarmedH vm₁ → Pre ⟨T.setVm vm₁, locs, cells, slots⟩ (Value.ref a :: argsL).toArray) :
    (∃ (v : Option Value) (vm₁ : Vm) (B : Pt), s.WarmedH vm₁ ∧ Stand p l e R s m args below meth c B.U B.locs B.cells B.slots ∧ Post ⟨T.setVm vm₁, locs, cells, slots⟩ (Value.ref a :: argsL).toArray v B ∧
      ∀ target, Steps p.tables e below (B.U.setTop { g with pc := g.pc + 3, stack := v.toList ++ rest }) target → Steps p.tables e below (T.setTop g) target) ∨
    (∃ (q : Addr) (vm₁ : Vm) (B : Pt), s.WarmedH vm₁ ∧ Stand p l e R s m args below meth c B.U B.locs B.cells B.slots ∧ PostX ⟨T.setVm vm₁, locs, cells, slots⟩ (Value.ref a :: argsL).toArray q B ∧
      Steps p.tables e below (T.setTop g) ((B.U.setTop { g with stack := rest }).pushFrame (.throwing q))) := by
  subst hg
  have hpl : e.platform.magicAccessors = ({} : Platform).magicAccessors := by rw [X.admits.platform]
  obtain ⟨mk, methM, cM, kP, vm₁, hnamed, hmethM, hcodeM, -, hlocalsM, -, hkP, -, hW₁, hstep₁⟩ := Steps.initColdArgsNest (e := e) X.here hexec X.warmed hpl hown hy1 hy hlink hinst hcode (f := g) rfl hlen hstack hdg
  have X₁ := X.noted hW₁
  rcases hK g.method meth c ⟨T.setVm vm₁, locs, cells, slots⟩ { g with stack := rest } (.invokespecial index) mk (Value.ref a :: argsL).toArray X₁ rfl hsize hdg hW (X₁.named hnamed) (hpre vm₁ X₁.warmed) with ⟨v, B, X', hpost, hsteps⟩ | ⟨q, B, X', hpost, hsteps⟩
  · exact Or.inl ⟨v, vm₁, B, X₁.warmed, X', hpost, fun target h => hstep₁ _ fun acts => by rw [doInvoke_state]; exact hsteps.trans h⟩
  · exact Or.inr ⟨q, vm₁, B, X₁.warmed, X', hpost, hstep₁ _ fun acts => by rw [doInvoke_state]; exact hsteps⟩
end VXIC
section VXID
variable {p : Program} {l : Launch} {e : Env} {R : Room} {s : State} {m : MethodId} {args : Array Value} {below : List Frame} {meth : Method} {c : Code} {H : Heap} {locs : List Loc} {cells slots : Nat}
theorem vx_runIN {y : MethodName} {bytes cc : ByteArray} {maxL nL mc ms n index : Nat} {ws : List Cond} {rm : Room} {Pc : Array Value → State → Prop} {Qc : Array Value → State → Outcome → State → Prop} {XC : String → State → State → Prop} {free : Addr → Prop} {Ts : List Cond} {own host : String} {b : Addr} {As rest : List Value} {g : JFrame}
    (S : CallFix p m c cc nL s args Ts own) (hM : vx_Met l y ws rm Pc Qc XC mc ms free) (cw : va_CN R s args own index y host bytes maxL none ws rm mc ms n ∧ y.name = "<init>" ∧ (Cond.instanceMethod y).before args s = true) (hp : PreS s H Pc (.ref b :: As))
    (hg : g.method = m) (hn : As.length = n) (hsize : g.locals.size = nL) (hstack : g.stack = As.reverse ++ .ref b :: rest) (hW : 2 * g.monitorRoom + (rest.map fun v => v.category).sum ≤ 8) (hdg : decode cc g.pc = .ok (.invokespecial index, 3)) (hf : cells + mc ≤ R.cells ∧ slots + ms ≤ R.slots) :
    vx_Run p l e R s m args below meth c H locs cells slots mc ms g rest (Qc (Value.ref b :: As).toArray) XC free := by
  obtain ⟨⟨⟨hrc, hrs, hfr, hlo, hws, hcw⟩, hcode, hini, hy, hlen, hl⟩, hx1, hx2⟩ := cw
  have hK : vx_Back l R p e below s args y 3 8 (PreOf R mc ms Pc) (PostOf Qc mc ms free) (vx_Post XC mc ms free) := vx_back (bytes := bytes) (maxL := maxL) (ret := none) hM hp.1 hrc hrs hfr hlo hws hcw (fun a' U hW => word_at hW (Or.inl (by first | rfl | simp [Cond.onTables, Cond.keeps, Cond.steady])) hini)
  obtain ⟨hx, hb, hml, ho, -⟩ := S
  have hPc := hp.2
  intro T hT X
  rcases vx_callIN X hx (bytes := bytes) (maxL := maxL) ho hx1 hl hx2 hcode hy hK hg (hsize.trans hml.symm) (a := b) (argsL := As) (rest := rest) (fun sig h => hn.trans (hlen sig h)) hstack hW (by rw [hb]; exact hdg)
    (fun vm₁ hW₁ => ⟨hf.1, hf.2, hPc (T.setVm vm₁) hT hW₁⟩) with ⟨v, vm₁, ⟨U', l2, c2, s2⟩, hW₁, X', ⟨g', mk, t, L, e1, e2, hq, h1, hL, h2, h3⟩, st⟩ | ⟨q, vm₁, ⟨U', l2, c2, s2⟩, hW₁, X', ⟨g', mk, t, L, E, ce, e1, e2, hq, hce, hcv, hcl, h1, hL, h2, h3⟩, st⟩
  · dsimp only [Pt.U, Pt.locs, Pt.cells, Pt.slots] at X' e1 e2 h1 h2 h3 st
    subst h1; subst h2; subst h3
    exact Or.inl ⟨v, (T.setVm vm₁).calling g' mk (Value.ref b :: As).toArray, t, U', L, hT, X', hL, e1, e2, hq, st⟩
  · dsimp only [Pt.U, Pt.locs, Pt.cells, Pt.slots] at X' e1 e2 h1 h2 h3 st hcl
    subst h1; subst h2; subst h3
    exact Or.inr ⟨q, (T.setVm vm₁).calling g' mk (Value.ref b :: As).toArray, t, U', L, E, ce, hT, X', hL, e1, e2, hq, hce, hcv, vx_cls hW₁ hcl, st⟩
end VXID
/-! ===== END ===== -/
/-! ===== BEGIN a method of a class above, found by the receiver, that may throw (follows va_callVU, va_runU of this kit) ===== -/
section
variable {p : Program} {l : Launch} {e : Env} {R : Room} {s : State} {m : MethodId} {args : Array Value} {below : List Frame} {meth : Method} {c : Code} {H : Heap} {locs : List Loc} {cells slots : Nat}
theorem vx_callVU {T : State} {locs : List Loc} {cells slots : Nat} (X : Stand p l e R s m args below meth c T locs cells slots) (hexec : p.tables.exec = Jvm.exec) {own C owner : String} {index : Nat} {x y : MethodName} {bytes : ByteArray} {maxL : Nat} {ret : Option FieldType}
    (hown : s.vm.findClass own = some m.cls) (hlink : (Cond.methodLink own index x).before args s = true) (hsame : (Cond.sameMethod x.cls owner x.name x.desc).before args s = true)
    (hd0 : va_Decl s ⟨owner, x.name, x.desc⟩) (howner : owner ≠ "java/lang/invoke/MethodHandle" ∧ owner ≠ "java/lang/invoke/VarHandle")
    (hsel : (Cond.selects C x y).before args s = true) (hinst : (Cond.instanceMethod y).before args s = true) (hcode : (Cond.code y bytes maxL ret).before args s = true)
    {W : Nat} {Pre : Pt → Array Value → Prop} {Post : Pt → Array Value → Option Value → Pt → Prop} {PostX : Pt → Array Value → Addr → Pt → Prop} (hK : vx_Back l R p e below s args y 3 W Pre Post PostX)
    {b : Addr} {cellB : Cell} (hcell : T.heap[b]? = some cellB) (hobj : cellB.vm.isStatics = false) (hcls : s.vm.findClass C = some cellB.cls)
    {g : JFrame} (hg : g.method = m) (hsize : g.locals.size = c.maxLocals) {argsL rest : List Value} (hlen : ∀ sig, parseMethodDescriptor x.desc = some sig → argsL.length = sig.parameters.length)
    (hstack : g.stack = argsL.reverse ++ .ref b :: rest) (hW : 2 * g.monitorRoom + (rest.map fun v => v.category).sum ≤ W) (hdg : decode c.code g.pc = .ok (.invokevirtual index, 3))
    (hpre : ∀ vm₁, s.WarmedH vm₁ → Pre ⟨T.setVm vm₁, locs, cells, slots⟩ (Value.ref b :: argsL).toArray) :
    (∃ (v : Option Value) (vm₁ : Vm) (B : Pt), s.WarmedH vm₁ ∧ Stand p l e R s m args below meth c B.U B.locs B.cells B.slots ∧ Post ⟨T.setVm vm₁, locs, cells, slots⟩ (Value.ref b :: argsL).toArray v B ∧
      ∀ target, Steps p.tables e below (B.U.setTop { g with pc := g.pc + 3, stack := v.toList ++ rest }) target → Steps p.tables e below (T.setTop g) target) ∨
    (∃ (q : Addr) (vm₁ : Vm) (B : Pt), s.WarmedH vm₁ ∧ Stand p l e R s m args below meth c B.U B.locs B.cells B.slots ∧ PostX ⟨T.setVm vm₁, locs, cells, slots⟩ (Value.ref b :: argsL).toArray q B ∧
      Steps p.tables e below (T.setTop g) ((B.U.setTop { g with stack := rest }).pushFrame (.throwing q))) := by
  obtain ⟨r0, r, hn, hrm, hstR, hsigR⟩ := hd0
  obtain ⟨cn, ck, r1, hcn, hck, hni, hf, hn1⟩ := Cond.sameMethod_found hsame
  cases hn.symm.trans hn1
  obtain ⟨mk, methM, hnamed, hmethM, -, habM⟩ := Cond.instanceMethod_spec hinst
  obtain ⟨c2, r2, m2, q1, q2, q3, q4, kP, hkP, hkPi⟩ := Cond.selects_spec hsel
  cases hcls.symm.trans q1
  cases hf.symm.trans q2
  cases hnamed.symm.trans q3
  have hselP : selectMethod e.platform s.vm cellB.cls r0 = .method mk := by rw [Launch.admits_selectMethod X.admits]; exact q4
  obtain ⟨vm₁, X₁, hstep₁⟩ := X.invokevirtualUp hexec hown hlink hsame howner hn hrm hstR (a := b) (cell := cellB) hcell
    (fun z h => by rw [h] at hobj; cases hobj) hselP hmethM habM hkP hkPi (g := g) hg (argsL := argsL) (rest := rest) (hlen _ hsigR) hstack hdg
  rcases hK m meth c ⟨T.setVm vm₁, locs, cells, slots⟩ { g with stack := rest } (.invokevirtual index) mk (Value.ref b :: argsL).toArray X₁ hg hsize hdg hW (X₁.named hnamed) (hpre vm₁ X₁.warmed) with ⟨v, B, X', hpost, hsteps⟩ | ⟨q, B, X', hpost, hsteps⟩
  · exact Or.inl ⟨v, vm₁, B, X₁.warmed, X', hpost, fun target h => hstep₁ _ fun acts => by rw [doInvoke_state]; exact hsteps.trans h⟩
  · exact Or.inr ⟨q, vm₁, B, X₁.warmed, X', hpost, hstep₁ _ fun acts => by rw [doInvoke_state]; exact hsteps⟩
theorem vx_runU {x y : MethodName} {bytes cc : ByteArray} {maxL nL mc ms n index : Nat} {ret : Option FieldType} {ws : List Cond} {rm : Room} {Pc : Array Value → State → Prop} {Qc : Array Value → State → Outcome → State → Prop} {XC : String → State → State → Prop} {free : Addr → Prop} {Ts : List Cond} {own C owner : String} {b : Addr} {As rest : List Value} {g : JFrame}
    (S : CallFix p m c cc nL s args Ts own) (hM : vx_Met l y ws rm Pc Qc XC mc ms free) (cw : va_CU R s args own C owner index x y bytes maxL ret ws rm mc ms n) (hp : PreV s H C b Pc As)
    (hg : g.method = m) (hn : As.length = n) (hsize : g.locals.size = nL) (hstack : g.stack = As.reverse ++ .ref b :: rest) (hW : 2 * g.monitorRoom + (rest.map fun v => v.category).sum ≤ 8) (hdg : decode cc g.pc = .ok (.invokevirtual index, 3)) (hf : cells + mc ≤ R.cells ∧ slots + ms ≤ R.slots) :
    vx_Run p l e R s m args below meth c H locs cells slots mc ms g rest (Qc (Value.ref b :: As).toArray) XC free := by
  obtain ⟨hrc, hrs, hfr, hlo, hws, hcw⟩ := cw.back
  have hini := cw.init
  have hK : vx_Back l R p e below s args y 3 8 (PreOf R mc ms Pc) (PostOf Qc mc ms free) (vx_Post XC mc ms free) := vx_back (bytes := bytes) (maxL := maxL) (ret := ret) hM hp.1 hrc hrs hfr hlo hws hcw (fun a' U hW => word_at hW (Or.inl (by first | rfl | simp [Cond.onTables, Cond.keeps, Cond.steady])) hini)
  obtain ⟨hx, hb, hml, ho, -⟩ := S
  obtain ⟨-, ⟨cellB, hcB, hoB, hclB⟩, hPc⟩ := hp
  intro T hT X
  rcases vx_callVU X hx (C := C) (owner := owner) (bytes := bytes) (maxL := maxL) (ret := ret) ho cw.link cw.same cw.decl cw.notMH cw.sel cw.inst cw.code hK (by rw [hT]; exact hcB) hoB hclB hg (hsize.trans hml.symm) (argsL := As) (rest := rest) (fun sig h => hn.trans (cw.len sig h)) hstack hW (by rw [hb]; exact hdg)
    (fun vm₁ hW₁ => ⟨hf.1, hf.2, hPc (T.setVm vm₁) hT hW₁⟩) with ⟨v, vm₁, ⟨U', l2, c2, s2⟩, hW₁, X', ⟨g', mk, t, L, e1, e2, hq, h1, hL, h2, h3⟩, st⟩ | ⟨q, vm₁, ⟨U', l2, c2, s2⟩, hW₁, X', ⟨g', mk, t, L, E, ce, e1, e2, hq, hce, hcv, hcl, h1, hL, h2, h3⟩, st⟩
  · dsimp only [Pt.U, Pt.locs, Pt.cells, Pt.slots] at X' e1 e2 h1 h2 h3 st
    subst h1; subst h2; subst h3
    exact Or.inl ⟨v, (T.setVm vm₁).calling g' mk (Value.ref b :: As).toArray, t, U', L, hT, X', hL, e1, e2, hq, st⟩
  · dsimp only [Pt.U, Pt.locs, Pt.cells, Pt.slots] at X' e1 e2 h1 h2 h3 st hcl
    subst h1; subst h2; subst h3
    exact Or.inr ⟨q, (T.setVm vm₁).calling g' mk (Value.ref b :: As).toArray, t, U', L, E, ce, hT, X', hL, e1, e2, hq, hce, hcv, vx_cls hW₁ hcl, st⟩
end
/-! ===== END ===== -/
/-! ===== BEGIN super.m(..) that may throw (follows va_callSU, va_runSU) ===== -/
section
variable {p : Program} {l : Launch} {e : Env} {R : Room} {s : State} {m : MethodId} {args : Array Value} {below : List Frame} {meth : Method} {c : Code} {H : Heap} {locs : List Loc} {cells slots : Nat}
theorem vx_callSU {T : State} {locs : List Loc} {cells slots : Nat} (X : Stand p l e R s m args below meth c T locs cells slots) (hexec : p.tables.exec = Jvm.exec) {own : String} {index : Nat} {y : MethodName} {bytes : ByteArray} {maxL : Nat} {ret : Option FieldType}
    (hown : s.vm.findClass own = some m.cls) (hlink : (Cond.methodLink own index y).before args s = true) (hsame : (Cond.sameMethod y.cls y.cls y.name y.desc).before args s = true) (hsup : (Cond.superclass own y.cls).before args s = true)
    (hinst : (Cond.instanceMethod y).before args s = true) (hcode : (Cond.code y bytes maxL ret).before args s = true) (hno : y.name ≠ "<init>")
    {W : Nat} {Pre : Pt → Array Value → Prop} {Post : Pt → Array Value → Option Value → Pt → Prop} {PostX : Pt → Array Value → Addr → Pt → Prop} (hK : vx_Back l R p e below s args y 3 W Pre Post PostX)
    {b : Addr} {cellB : Cell} {kB : Class} (hcell : T.heap[b]? = some cellB) (hobj : cellB.vm.isStatics = false) (hkB : s.vm.classes[cellB.cls]? = some kB)
    {g : JFrame} (hg : g.method = m) (hsize : g.locals.size = c.maxLocals) {argsL rest : List Value} (hlen : ∀ sig, parseMethodDescriptor y.desc = some sig → argsL.length = sig.parameters.length)
    (hstack : g.stack = argsL.reverse ++ .ref b :: rest) (hW : 2 * g.monitorRoom + (rest.map fun v => v.category).sum ≤ W) (hdg : decode c.code g.pc = .ok (.invokespecial index, 3))
    (hpre : ∀ vm₁, s.WarmedH vm₁ → Pre ⟨T.setVm vm₁, locs, cells, slots⟩ (Value.ref b :: argsL).toArray) :
    (∃ (v : Option Value) (vm₁ : Vm) (B : Pt), s.WarmedH vm₁ ∧ Stand p l e R s m args below meth c B.U B.locs B.cells B.slots ∧ Post ⟨T.setVm vm₁, locs, cells, slots⟩ (Value.ref b :: argsL).toArray v B ∧
      ∀ target, Steps p.tables e below (B.U.setTop { g with pc := g.pc + 3, stack := v.toList ++ rest }) target → Steps p.tables e below (T.setTop g) target) ∨
    (∃ (q : Addr) (vm₁ : Vm) (B : Pt), s.WarmedH vm₁ ∧ Stand p l e R s m args below meth c B.U B.locs B.cells B.slots ∧ PostX ⟨T.setVm vm₁, locs, cells, slots⟩ (Value.ref b :: argsL).toArray q B ∧
      Steps p.tables e below (T.setTop g) ((B.U.setTop { g with stack := rest }).pushFrame (.throwing q))) := by
  obtain ⟨mk, methM, hnamed, hmethM, hstM, habM⟩ := Cond.instanceMethod_spec hinst
  obtain ⟨methM', cM, hmethM', -, -, -, -, -, -, hsigM⟩ := Cond.code_spec hnamed hcode
  cases hmethM.symm.trans hmethM'
  obtain ⟨ps, dk, kp, hps, hdk, hkp, hsuper, -, -, hnid⟩ := Cond.superclass_spec hown hsup
  have hn : s.methodNamed? ⟨y.cls, y.name, y.desc⟩ = some mk := hnamed
  have hpm : ps = mk.cls := Option.some.inj (hps.symm.trans (findClass_of_methodNamed hnamed))
  have hsub : s.vm.isSubclass ps mk.cls = true := by rw [hpm]; simp [Vm.isSubclass, Vm.isSubclassAux]
  obtain ⟨vm₁, X₁, hstep₁⟩ := X.invokespecialUp hexec hown hlink hsame hn hmethM hstM habM hno hdk hnid hps hsuper hsub (a := b) (cell := cellB) hcell
    (fun z h => by rw [h] at hobj; cases hobj) hkB (g := g) hg (argsL := argsL) (rest := rest) (hlen _ hsigM) hstack hdg
  rcases hK m meth c ⟨T.setVm vm₁, locs, cells, slots⟩ { g with stack := rest } (.invokespecial index) mk (Value.ref b :: argsL).toArray X₁ hg hsize hdg hW (X₁.named hnamed) (hpre vm₁ X₁.warmed) with ⟨v, B, X', hpost, hsteps⟩ | ⟨q, B, X', hpost, hsteps⟩
  · exact Or.inl ⟨v, vm₁, B, X₁.warmed, X', hpost, fun target h => hstep₁ _ (by rw [doInvoke_state]; exact hsteps.trans h)⟩
  · exact Or.inr ⟨q, vm₁, B, X₁.warmed, X', hpost, hstep₁ _ (by rw [doInvoke_state]; exact hsteps)⟩
theorem vx_runSU {y : MethodName} {bytes cc : ByteArray} {maxL nL mc ms n index : Nat} {ret : Option FieldType} {ws : List Cond} {rm : Room} {Pc : Array Value → State → Prop} {Qc : Array Value → State → Outcome → State → Prop} {XC : String → State → State → Prop} {free : Addr → Prop} {Ts : List Cond} {own C : String} {cC : ClassId} {b : Addr} {As rest : List Value} {g : JFrame}
    (hat : ClassAt s C cC) (S : CallFix p m c cc nL s args Ts own) (hM : vx_Met l y ws rm Pc Qc XC mc ms free) (cw : va_CS R s args own index y bytes maxL ret ws rm mc ms n) (hp : PreV s H C b Pc As)
    (hg : g.method = m) (hn : As.length = n) (hsize : g.locals.size = nL) (hstack : g.stack = As.reverse ++ .ref b :: rest) (hW : 2 * g.monitorRoom + (rest.map fun v => v.category).sum ≤ 8) (hdg : decode cc g.pc = .ok (.invokespecial index, 3)) (hf : cells + mc ≤ R.cells ∧ slots + ms ≤ R.slots) :
    vx_Run p l e R s m args below meth c H locs cells slots mc ms g rest (Qc (Value.ref b :: As).toArray) XC free := by
  obtain ⟨⟨hrc, hrs, hfr, hlo, hws, hcw⟩, hl1, hl2, hl3, hl4, hini, hcode, hno, hlen⟩ := cw
  have hK : vx_Back l R p e below s args y 3 8 (PreOf R mc ms Pc) (PostOf Qc mc ms free) (vx_Post XC mc ms free) := vx_back (bytes := bytes) (maxL := maxL) (ret := ret) hM hp.1 hrc hrs hfr hlo hws hcw (fun a' U hW => word_at hW (Or.inl (by first | rfl | simp [Cond.onTables, Cond.keeps, Cond.steady])) hini)
  obtain ⟨hx, hb, hml, ho, -⟩ := S
  obtain ⟨-, ⟨cellB, hcB, hoB, hclB⟩, hPc⟩ := hp
  obtain ⟨hfc, kB, hkB, -⟩ := hat
  cases hfc.symm.trans hclB
  intro T hT X
  rcases vx_callSU X hx (bytes := bytes) (maxL := maxL) (ret := ret) ho hl1 hl2 hl3 hl4 hcode hno hK (by rw [hT]; exact hcB) hoB hkB hg (hsize.trans hml.symm) (argsL := As) (rest := rest) (fun sig h => hn.trans (hlen sig h)) hstack hW (by rw [hb]; exact hdg)
    (fun vm₁ hW₁ => ⟨hf.1, hf.2, hPc (T.setVm vm₁) hT hW₁⟩) with ⟨v, vm₁, ⟨U', l2, c2, s2⟩, hW₁, X', ⟨g', mk, t, L, e1, e2, hq, h1, hL, h2, h3⟩, st⟩ | ⟨q, vm₁, ⟨U', l2, c2, s2⟩, hW₁, X', ⟨g', mk, t, L, E, ce, e1, e2, hq, hce, hcv, hcl, h1, hL, h2, h3⟩, st⟩
  · dsimp only [Pt.U, Pt.locs, Pt.cells, Pt.slots] at X' e1 e2 h1 h2 h3 st
    subst h1; subst h2; subst h3
    exact Or.inl ⟨v, (T.setVm vm₁).calling g' mk (Value.ref b :: As).toArray, t, U', L, hT, X', hL, e1, e2, hq, st⟩
  · dsimp only [Pt.U, Pt.locs, Pt.cells, Pt.slots] at X' e1 e2 h1 h2 h3 st hcl
    subst h1; subst h2; subst h3
    exact Or.inr ⟨q, (T.setVm vm₁).calling g' mk (Value.ref b :: As).toArray, t, U', L, E, ce, hT, X', hL, e1, e2, hq, hce, hcv, vx_cls hW₁ hcl, st⟩
end
/-! ===== END ===== -/
/-! ===== BEGIN a private method of a nest mate that may throw (follows va_callVN, va_callSN, va_runVN, va_runSN) ===== -/
section
variable {p : Program} {l : Launch} {e : Env} {R : Room} {s : State} {m : MethodId} {args : Array Value} {below : List Frame} {meth : Method} {c : Code} {H : Heap} {locs : List Loc} {cells slots : Nat}
variable {T : State}
theorem vx_callVN (X : Stand p l e R s m args below meth c T locs cells slots) (hexec : p.tables.exec = Jvm.exec) {own C : String} {index : Nat} {host : String} {y : MethodName} {bytes : ByteArray} {maxL : Nat} {ret : Option FieldType}
    (hown : s.vm.findClass own = some m.cls) (hlink : (Cond.methodLinkNest own index y host).before args s = true) (hinst : (Cond.instanceMethod y).before args s = true) (hsel : (Cond.selects C y y).before args s = true)
    (hcode : (Cond.code y bytes maxL ret).before args s = true) (hy : y.cls ≠ "java/lang/invoke/MethodHandle" ∧ y.cls ≠ "java/lang/invoke/VarHandle")
    {W : Nat} {Pre : Pt → Array Value → Prop} {Post : Pt → Array Value → Option Value → Pt → Prop} {PostX : Pt → Array Value → Addr → Pt → Prop} (hK : vx_Back l R p e below s args y 3 W Pre Post PostX)
    {b : Addr} {cellB : Cell} (hcell : T.heap[b]? = some cellB) (hobj : cellB.vm.isStatics = false) (hcls : s.vm.findClass C = some cellB.cls)
    {g : JFrame} (hg : g.method = m) (hsize : g.locals.size = c.maxLocals) {argsL rest : List Value} (hlen : ∀ sig, parseMethodDescriptor y.desc = some sig → argsL.length = sig.parameters.length)
    (hstack : g.stack = argsL.reverse ++ .ref b :: rest) (hW : 2 * g.monitorRoom + (rest.map fun v => v.category).sum ≤ W) (hdg : decode c.code g.pc = .ok (.invokevirtual index, 3))
    (hpre : ∀ vm₁, s.WarmedH vm₁ → Pre ⟨T.setVm vm₁, locs, cells, slots⟩ (Value.ref b :: argsL).toArray) :
    (∃ (v : Option Value) (vm₁ : Vm) (B : Pt), s.WarmedH vm₁ ∧ Stand p l e R s m args below meth c B.U B.locs B.cells B.slots ∧ Post ⟨T.setVm vm₁, locs, cells, slots⟩ (Value.ref b :: argsL).toArray v B ∧
      ∀ target, Steps p.tables e below (B.U.setTop { g with pc := g.pc + 3, stack := v.toList ++ rest }) target → Steps p.tables e below (T.setTop g) target) ∨
    (∃ (q : Addr) (vm₁ : Vm) (B : Pt), s.WarmedH vm₁ ∧ Stand p l e R s m args below meth c B.U B.locs B.cells B.slots ∧ PostX ⟨T.setVm vm₁, locs, cells, slots⟩ (Value.ref b :: argsL).toArray q B ∧
      Steps p.tables e below (T.setTop g) ((B.U.setTop { g with stack := rest }).pushFrame (.throwing q))) := by
  obtain ⟨mk, methM, hnamed, hmethM, hstM, habM⟩ := Cond.instanceMethod_spec hinst
  obtain ⟨methM', cM, hmethM', -, -, -, -, -, -, hsigM⟩ := Cond.code_spec hnamed hcode
  cases hmethM.symm.trans hmethM'
  obtain ⟨c2, r2, m2, q1, q2, q3, q4, kP, hkP, hkPi⟩ := Cond.selects_spec hsel
  cases hcls.symm.trans q1
  cases (State.methodFound?_of_named hnamed hy).symm.trans q2
  cases hnamed.symm.trans q3
  have hselP : selectMethod e.platform s.vm cellB.cls mk = .method mk := by rw [Launch.admits_selectMethod X.admits]; exact q4
  obtain ⟨vm₁, X₁, hstep₁⟩ := X.invokevirtualNest hexec hown hlink hnamed hmethM hstM hkP hkPi hy (a := b) (cell := cellB) hcell
    (fun z h => by rw [h] at hobj; cases hobj) hselP hmethM habM hkP hkPi (g := g) hg (argsL := argsL) (rest := rest) (hlen _ hsigM) hstack hdg
  rcases hK m meth c ⟨T.setVm vm₁, locs, cells, slots⟩ { g with stack := rest } (.invokevirtual index) mk (Value.ref b :: argsL).toArray X₁ hg hsize hdg hW (X₁.named hnamed) (hpre vm₁ X₁.warmed) with ⟨v, B, X', hpost, hsteps⟩ | ⟨q, B, X', hpost, hsteps⟩
  · exact Or.inl ⟨v, vm₁, B, X₁.warmed, X', hpost, fun target h => hstep₁ _ fun acts => by rw [doInvoke_state]; exact hsteps.trans h⟩
  · exact Or.inr ⟨q, vm₁, B, X₁.warmed, X', hpost, hstep₁ _ fun acts => by rw [doInvoke_state]; exact hsteps⟩
theorem vx_callSN (X : Stand p l e R s m args below meth c T locs cells slots) (hexec : p.tables.exec = Jvm.exec) {own : String} {index : Nat} {host : String} {y : MethodName} {bytes : ByteArray} {maxL : Nat} {ret : Option FieldType}
    (hown : s.vm.findClass own = some m.cls) (hlink : (Cond.methodLinkNest own index y host).before args s = true) (hstat : (Cond.static y).before args s = true) (hinit : (Cond.initialized y.cls).before args s = true)
    (hcode : (Cond.code y bytes maxL ret).before args s = true) (hy : y.cls ≠ "java/lang/invoke/MethodHandle" ∧ y.cls ≠ "java/lang/invoke/VarHandle")
    {W : Nat} {Pre : Pt → Array Value → Prop} {Post : Pt → Array Value → Option Value → Pt → Prop} {PostX : Pt → Array Value → Addr → Pt → Prop} (hK : vx_Back l R p e below s args y 3 W Pre Post PostX)
    {g : JFrame} (hg : g.method = m) (hsize : g.locals.size = c.maxLocals) {argsL rest : List Value} (hlen : ∀ sig, parseMethodDescriptor y.desc = some sig → argsL.length = sig.parameters.length)
    (hstack : g.stack = argsL.reverse ++ rest) (hW : 2 * g.monitorRoom + (rest.map fun v => v.category).sum ≤ W) (hdg : decode c.code g.pc = .ok (.invokestatic index, 3))
    (hpre : ∀ vm₁, s.WarmedH vm₁ → Pre ⟨T.setVm vm₁, locs, cells, slots⟩ argsL.toArray) :
    (∃ (v : Option Value) (vm₁ : Vm) (B : Pt), s.WarmedH vm₁ ∧ Stand p l e R s m args below meth c B.U B.locs B.cells B.slots ∧ Post ⟨T.setVm vm₁, locs, cells, slots⟩ argsL.toArray v B ∧
      ∀ target, Steps p.tables e below (B.U.setTop { g with pc := g.pc + 3, stack := v.toList ++ rest }) target → Steps p.tables e below (T.setTop g) target) ∨
    (∃ (q : Addr) (vm₁ : Vm) (B : Pt), s.WarmedH vm₁ ∧ Stand p l e R s m args below meth c B.U B.locs B.cells B.slots ∧ PostX ⟨T.setVm vm₁, locs, cells, slots⟩ argsL.toArray q B ∧
      Steps p.tables e below (T.setTop g) ((B.U.setTop { g with stack := rest }).pushFrame (.throwing q))) := by
  obtain ⟨mk, hnamed⟩ := Cond.code_named hcode
  obtain ⟨methM, cM, hmethM, -, -, -, -, -, -, hsigM⟩ := Cond.code_spec hnamed hcode
  have hstatic : methM.isStatic = true := Cond.static_spec hnamed hmethM hstat
  obtain ⟨kP, hkP, -⟩ := className_of_methodNamed hnamed
  have hinitP : kP.init = .initialized := Cond.initialized_spec (findClass_of_methodNamed hnamed) hkP hinit
  obtain ⟨vm₁, X₁, hstep₁⟩ := X.invokestaticNest hexec hown hlink hnamed hmethM hstatic hkP hinitP hy (g := g) hg (argsL := argsL) (rest := rest) (hlen _ hsigM) hstack hdg
  rcases hK m meth c ⟨T.setVm vm₁, locs, cells, slots⟩ { g with stack := rest } (.invokestatic index) mk argsL.toArray X₁ hg hsize hdg hW (X₁.named hnamed) (hpre vm₁ X₁.warmed) with ⟨v, B, X', hpost, hsteps⟩ | ⟨q, B, X', hpost, hsteps⟩
  · exact Or.inl ⟨v, vm₁, B, X₁.warmed, X', hpost, fun target h => hstep₁ _ fun acts => by rw [doInvoke_state]; exact hsteps.trans h⟩
  · exact Or.inr ⟨q, vm₁, B, X₁.warmed, X', hpost, hstep₁ _ fun acts => by rw [doInvoke_state]; exact hsteps⟩
theorem vx_runVN {y : MethodName} {bytes cc : ByteArray} {maxL nL mc ms n index : Nat} {ret : Option FieldType} {ws : List Cond} {rm : Room} {Pc : Array Value → State → Prop} {Qc : Array Value → State → Outcome → State → Prop} {XC : String → State → State → Prop} {free : Addr → Prop} {Ts : List Cond} {own C host : String} {b : Addr} {As rest : List Value} {g : JFrame}
    (S : CallFix p m c cc nL s args Ts own) (hM : vx_Met l y ws rm Pc Qc XC mc ms free) (cw : va_CN R s args own index y host bytes maxL ret ws rm mc ms n ∧ (Cond.instanceMethod y).before args s = true ∧ (Cond.selects C y y).before args s = true) (hp : PreV s H C b Pc As)
    (hg : g.method = m) (hn : As.length = n) (hsize : g.locals.size = nL) (hstack : g.stack = As.reverse ++ .ref b :: rest) (hW : 2 * g.monitorRoom + (rest.map fun v => v.category).sum ≤ 8) (hdg : decode cc g.pc = .ok (.invokevirtual index, 3)) (hf : cells + mc ≤ R.cells ∧ slots + ms ≤ R.slots) :
    vx_Run p l e R s m args below meth c H locs cells slots mc ms g rest (Qc (Value.ref b :: As).toArray) XC free := by
  obtain ⟨⟨⟨hrc, hrs, hfr, hlo, hws, hcw⟩, hcode, hini, hy, hlen, hl⟩, hx1, hx2⟩ := cw
  have hK : vx_Back l R p e below s args y 3 8 (PreOf R mc ms Pc) (PostOf Qc mc ms free) (vx_Post XC mc ms free) := vx_back (bytes := bytes) (maxL := maxL) (ret := ret) hM hp.1 hrc hrs hfr hlo hws hcw (fun a' U hW => word_at hW (Or.inl (by first | rfl | simp [Cond.onTables, Cond.keeps, Cond.steady])) hini)
  obtain ⟨hx, hb, hml, ho, -⟩ := S
  obtain ⟨-, ⟨cellB, hcB, hoB, hclB⟩, hPc⟩ := hp
  intro T hT X
  rcases vx_callVN X hx (C := C) (bytes := bytes) (maxL := maxL) (ret := ret) ho hl hx1 hx2 hcode hy hK (by rw [hT]; exact hcB) hoB hclB hg (hsize.trans hml.symm) (argsL := As) (rest := rest) (fun sig h => hn.trans (hlen sig h)) hstack hW (by rw [hb]; exact hdg)
    (fun vm₁ hW₁ => ⟨hf.1, hf.2, hPc (T.setVm vm₁) hT hW₁⟩) with ⟨v, vm₁, ⟨U', l2, c2, s2⟩, hW₁, X', ⟨g', mk, t, L, e1, e2, hq, h1, hL, h2, h3⟩, st⟩ | ⟨q, vm₁, ⟨U', l2, c2, s2⟩, hW₁, X', ⟨g', mk, t, L, E, ce, e1, e2, hq, hce, hcv, hcl, h1, hL, h2, h3⟩, st⟩
  · dsimp only [Pt.U, Pt.locs, Pt.cells, Pt.slots] at X' e1 e2 h1 h2 h3 st
    subst h1; subst h2; subst h3
    exact Or.inl ⟨v, (T.setVm vm₁).calling g' mk (Value.ref b :: As).toArray, t, U', L, hT, X', hL, e1, e2, hq, st⟩
  · dsimp only [Pt.U, Pt.locs, Pt.cells, Pt.slots] at X' e1 e2 h1 h2 h3 st hcl
    subst h1; subst h2; subst h3
    exact Or.inr ⟨q, (T.setVm vm₁).calling g' mk (Value.ref b :: As).toArray, t, U', L, E, ce, hT, X', hL, e1, e2, hq, hce, hcv, vx_cls hW₁ hcl, st⟩
theorem vx_runSN {y : MethodName} {bytes cc : ByteArray} {maxL nL mc ms n index : Nat} {ret : Option FieldType} {ws : List Cond} {rm : Room} {Pc : Array Value → State → Prop} {Qc : Array Value → State → Outcome → State → Prop} {XC : String → State → State → Prop} {free : Addr → Prop} {Ts : List Cond} {own host : String} {As rest : List Value} {g : JFrame}
    (S : CallFix p m c cc nL s args Ts own) (hM : vx_Met l y ws rm Pc Qc XC mc ms free) (cw : va_CN R s args own index y host bytes maxL ret ws rm mc ms n ∧ (Cond.static y).before args s = true ∧ True) (hp : PreS s H Pc As)
    (hg : g.method = m) (hn : As.length = n) (hsize : g.locals.size = nL) (hstack : g.stack = As.reverse ++ rest) (hW : 2 * g.monitorRoom + (rest.map fun v => v.category).sum ≤ 8) (hdg : decode cc g.pc = .ok (.invokestatic index, 3)) (hf : cells + mc ≤ R.cells ∧ slots + ms ≤ R.slots) :
    vx_Run p l e R s m args below meth c H locs cells slots mc ms g rest (Qc As.toArray) XC free := by
  obtain ⟨⟨⟨hrc, hrs, hfr, hlo, hws, hcw⟩, hcode, hini, hy, hlen, hl⟩, hx1, hx2⟩ := cw
  have hK : vx_Back l R p e below s args y 3 8 (PreOf R mc ms Pc) (PostOf Qc mc ms free) (vx_Post XC mc ms free) := vx_back (bytes := bytes) (maxL := maxL) (ret := ret) hM hp.1 hrc hrs hfr hlo hws hcw (fun a' U hW => word_at hW (Or.inl (by first | rfl | simp [Cond.onTables, Cond.keeps, Cond.steady])) hini)
  obtain ⟨hx, hb, hml, ho, -⟩ := S
  have hPc := hp.2
  intro T hT X
  rcases vx_callSN X hx (bytes := bytes) (maxL := maxL) (ret := ret) ho hl hx1 hini hcode hy hK hg (hsize.trans hml.symm) (argsL := As) (rest := rest) (fun sig h => hn.trans (hlen sig h)) hstack hW (by rw [hb]; exact hdg)
    (fun vm₁ hW₁ => ⟨hf.1, hf.2, hPc (T.setVm vm₁) hT hW₁⟩) with ⟨v, vm₁, ⟨U', l2, c2, s2⟩, hW₁, X', ⟨g', mk, t, L, e1, e2, hq, h1, hL, h2, h3⟩, st⟩ | ⟨q, vm₁, ⟨U', l2, c2, s2⟩, hW₁, X', ⟨g', mk, t, L, E, ce, e1, e2, hq, hce, hcv, hcl, h1, hL, h2, h3⟩, st⟩
  · dsimp only [Pt.U, Pt.locs, Pt.cells, Pt.slots] at X' e1 e2 h1 h2 h3 st
    subst h1; subst h2; subst h3
    exact Or.inl ⟨v, (T.setVm vm₁).calling g' mk As.toArray, t, U', L, hT, X', hL, e1, e2, hq, st⟩
  · dsimp only [Pt.U, Pt.locs, Pt.cells, Pt.slots] at X' e1 e2 h1 h2 h3 st hcl
    subst h1; subst h2; subst h3
    exact Or.inr ⟨q, (T.setVm vm₁).calling g' mk As.toArray, t, U', L, E, ce, hT, X', hL, e1, e2, hq, hce, hcv, vx_cls hW₁ hcl, st⟩
end
/-! ===== END ===== -/
/-! ===== BEGIN calls by an interface of methods that may throw (vx_callIF, vx_runF follow va_callIF, va_runF of this kit) ===== -/
section
variable {p : Program} {l : Launch} {e : Env} {R : Room} {s : State} {m : MethodId} {args : Array Value} {below : List Frame} {meth : Method} {c : Code} {H : Heap} {locs : List Loc} {cells slots : Nat} {Q : State → Prop}
variable {mc ms : Nat} {free : Addr → Prop} {A0 A1 : Nat → Prop} {H0 : Heap} {a : Array Value} {pc : Nat} {ls : Array Slot} {st0 rest : List Value}
def vx_Run5 (p : Program) (l : Launch) (e : Env) (R : Room) (s : State) (m : MethodId) (args : Array Value) (below : List Frame) (meth : Method) (c : Code) (H : Heap) (locs : List Loc) (cells slots mc ms : Nat) (g : JFrame) (rest : List Value) (Qa : State → Outcome → State → Prop) (XC : String → State → State → Prop) (free : Addr → Prop) : Prop :=
  ∀ T : State, T.heap = H → Stand p l e R s m args below meth c T locs cells slots →
    (∃ (v : Option Value) (st₀ t T' : State) (L : List Loc), st₀.heap = H ∧ Stand p l e R s m args below meth c T' (locs ++ L) (cells + mc) (slots + ms) ∧ (∀ q ∈ L, free q.base) ∧ T'.heap = t.heap ∧ T'.vm = t.vm ∧ Qa st₀ (.returned v) t ∧
      Goes p e below T g T' { g with pc := g.pc + 5, stack := v.toList ++ rest }) ∨
    (∃ (q : Addr) (st₀ t T' : State) (L : List Loc) (E : String) (ce : Cell), st₀.heap = H ∧ Stand p l e R s m args below meth c T' (locs ++ L) (cells + mc) (slots + ms) ∧ (∀ z ∈ L, free z.base) ∧ T'.heap = t.heap ∧ T'.vm = t.vm ∧ XC E st₀ t ∧ t.heap[q]? = some ce ∧ ce.vm = .none ∧ s.vm.findClass E = some ce.cls ∧
      Steps p.tables e below (T.setTop g) ((T'.setTop { g with stack := rest }).pushFrame (.throwing q)))
theorem vx_callIF {T : State} (X : Stand p l e R s m args below meth c T locs cells slots) (hexec : p.tables.exec = Jvm.exec) {own C : String} {index count : Nat} {x y : MethodName} {bytes : ByteArray} {maxL : Nat} {ret : Option FieldType}
    (hown : s.vm.findClass own = some m.cls) (hlink : (Cond.methodLink own index x).before args s = true) (hdecl : (Cond.declares x).before args s = true) (hface : (Cond.interfaceMethod x.cls x.cls x.name x.desc).before args s = true)
    (hsel : (Cond.selects C x y).before args s = true) (hinst : (Cond.instanceMethod y).before args s = true) (hpub : (Cond.publicMethod y).before args s = true) (hunh : (Cond.unhidden C x.name x.desc).before args s = true)
    (hcast : (Cond.castable C x.cls).before args s = true) (hcode : (Cond.code y bytes maxL ret).before args s = true) (hx : x.cls ≠ "java/lang/invoke/MethodHandle" ∧ x.cls ≠ "java/lang/invoke/VarHandle")
    {W9 : Nat} {Pre : Pt → Array Value → Prop} {Post : Pt → Array Value → Option Value → Pt → Prop} {PostX : Pt → Array Value → Addr → Pt → Prop} (hK : vx_Back l R p e below s args y 5 W9 Pre Post PostX)
    {b : Addr} {cellB : Cell} {kB : Class} (hcell : T.heap[b]? = some cellB) (hobj : cellB.vm.isStatics = false) (hcls : s.vm.findClass C = some cellB.cls) (hkB : s.vm.classes[cellB.cls]? = some kB)
    {g : JFrame} (hg : g.method = m) (hsize : g.locals.size = c.maxLocals) {argsL rest : List Value} (hlen : ∀ sig, parseMethodDescriptor x.desc = some sig → argsL.length = sig.parameters.length)
    (hstack : g.stack = argsL.reverse ++ .ref b :: rest) (hW : 2 * g.monitorRoom + (rest.map fun v => v.category).sum ≤ W9) (hdg : decode c.code g.pc = .ok (.invokeinterface index count, 5))
    (hpre : ∀ vm₁, s.WarmedH vm₁ → Pre ⟨T.setVm vm₁, locs, cells, slots⟩ (Value.ref b :: argsL).toArray) :
    (∃ (v : Option Value) (vm₁ : Vm) (B : Pt), s.WarmedH vm₁ ∧ Stand p l e R s m args below meth c B.U B.locs B.cells B.slots ∧ Post ⟨T.setVm vm₁, locs, cells, slots⟩ (Value.ref b :: argsL).toArray v B ∧
      ∀ target, Steps p.tables e below (B.U.setTop { g with pc := g.pc + 5, stack := v.toList ++ rest }) target → Steps p.tables e below (T.setTop g) target) ∨
    (∃ (q : Addr) (vm₁ : Vm) (B : Pt), s.WarmedH vm₁ ∧ Stand p l e R s m args below meth c B.U B.locs B.cells B.slots ∧ PostX ⟨T.setVm vm₁, locs, cells, slots⟩ (Value.ref b :: argsL).toArray q B ∧
      Steps p.tables e below (T.setTop g) ((B.U.setTop { g with stack := rest }).pushFrame (.throwing q))) := by
  obtain ⟨r0, r, hn, hrm, hstR, hsigR⟩ := Cond.declares_spec hdecl
  obtain ⟨cL, kL, r1, hcL, hkL, hiL, hfoundL, hn1⟩ := Cond.interfaceMethod_spec hface
  cases hn.symm.trans hn1
  have hr0cls : r0.cls = cL := Option.some.inj ((findClass_of_methodNamed hn).symm.trans hcL)
  obtain ⟨hnameR, hdescR⟩ := name_of_methodNamed hn hrm
  obtain ⟨mk, methM, hnamed, hmethM, -, habM⟩ := Cond.instanceMethod_spec hinst
  obtain ⟨c2, r2, m2, q1, q2, q3, q4, -⟩ := Cond.selects_spec hsel
  cases hcls.symm.trans q1
  cases hfoundL.symm.trans q2
  cases hnamed.symm.trans q3
  have hselP : selectMethod e.platform s.vm cellB.cls r0 = .method mk := by rw [Launch.admits_selectMethod X.admits]; exact q4
  have hpubM : hasFlag methM.accessFlags Acc.public_ = true := Cond.publicMethod_spec hnamed hmethM hpub
  have hway : ((cellB.cls :: s.vm.superclasses cellB.cls).any fun k => (declaredIn s.vm r.name r.desc k).any fun (_, z) => z.isPrivate || z.isStatic) = false := by
    rw [hnameR, hdescR]; exact Cond.unhidden_spec hcls hunh
  obtain ⟨c3, t3, w1, w2, w3⟩ := Cond.castable_spec hcast
  cases hcls.symm.trans w1
  cases hcL.symm.trans w2
  obtain ⟨vm₁, X₁, hstep₁⟩ := X.invokeinterface hexec hown hlink hn hrm hstR (by rw [hr0cls]; exact hkL) hiL hx (a := b) (cell := cellB) (kcell := kB) hcell
    (fun z h => by rw [h] at hobj; cases hobj) hkB (by rw [hr0cls]; exact w3) hselP hmethM hway hpubM habM (g := g) hg (argsL := argsL) (rest := rest) (hlen _ hsigR) hstack hdg
  rcases hK m meth c ⟨T.setVm vm₁, locs, cells, slots⟩ { g with stack := rest } (.invokeinterface index count) mk (Value.ref b :: argsL).toArray X₁ hg hsize hdg hW (X₁.named hnamed) (hpre vm₁ X₁.warmed) with ⟨v, B, X', hpost, hsteps⟩ | ⟨q, B, X', hpost, hsteps⟩
  · exact Or.inl ⟨v, vm₁, B, X₁.warmed, X', hpost, fun target h => hstep₁ _ fun acts => by rw [doInvoke_state]; exact hsteps.trans h⟩
  · exact Or.inr ⟨q, vm₁, B, X₁.warmed, X', hpost, hstep₁ _ fun acts => by rw [doInvoke_state]; exact hsteps⟩
theorem vx_runF {x y : MethodName} {bytes cc : ByteArray} {maxL nL mc ms n index count : Nat} {ret : Option FieldType} {ws : List Cond} {rm : Room} {Pc : Array Value → State → Prop} {Qc : Array Value → State → Outcome → State → Prop} {XC : String → State → State → Prop} {free : Addr → Prop} {Ts : List Cond} {own C : String} {cC : ClassId} {b : Addr} {As rest : List Value} {g : JFrame}
    (hat : ClassAt s C cC) (S : CallFix p m c cc nL s args Ts own) (hM : vx_Met l y ws rm Pc Qc XC mc ms free) (cw : va_CI R s args own C index x y bytes maxL ret ws rm mc ms n) (hp : PreV s H C b Pc As)
    (hg : g.method = m) (hn : As.length = n) (hsize : g.locals.size = nL) (hstack : g.stack = As.reverse ++ .ref b :: rest) (hW : 2 * g.monitorRoom + (rest.map fun v => v.category).sum ≤ 8) (hdg : decode cc g.pc = .ok (.invokeinterface index count, 5)) (hf : cells + mc ≤ R.cells ∧ slots + ms ≤ R.slots) :
    vx_Run5 p l e R s m args below meth c H locs cells slots mc ms g rest (Qc (Value.ref b :: As).toArray) XC free := by
  obtain ⟨hrc, hrs, hfr, hlo, hws, hcw⟩ := cw.back
  have hini := cw.init
  have hK : vx_Back l R p e below s args y 5 8 (PreOf R mc ms Pc) (PostOf Qc mc ms free) (vx_Post XC mc ms free) := vx_back (bytes := bytes) (maxL := maxL) (ret := ret) hM hp.1 hrc hrs hfr hlo hws hcw (fun a' U hW => word_at hW (Or.inl (by first | rfl | simp [Cond.onTables, Cond.keeps, Cond.steady])) hini)
  obtain ⟨hx, hb, hml, ho, -⟩ := S
  obtain ⟨-, ⟨cellB, hcB, hoB, hclB⟩, hPc⟩ := hp
  obtain ⟨hfc, kB, hkB, -⟩ := hat
  cases hfc.symm.trans hclB
  intro T hT X
  rcases vx_callIF X hx (C := C) (bytes := bytes) (maxL := maxL) (ret := ret) ho cw.link cw.decl cw.face cw.sel cw.inst cw.pub cw.unh cw.cast cw.code cw.notMH hK (by rw [hT]; exact hcB) hoB hclB hkB hg (hsize.trans hml.symm) (argsL := As) (rest := rest) (fun sig h => hn.trans (cw.len sig h)) hstack hW (by rw [hb]; exact hdg)
    (fun vm₁ hW₁ => ⟨hf.1, hf.2, hPc (T.setVm vm₁) hT hW₁⟩) with ⟨v, vm₁, ⟨U', l2, c2, s2⟩, hW₁, X', ⟨g', mk, t, L, e1, e2, hq, h1, hL, h2, h3⟩, st⟩ | ⟨q, vm₁, ⟨U', l2, c2, s2⟩, hW₁, X', ⟨g', mk, t, L, E, ce, e1, e2, hq, hce, hcv, hcl, h1, hL, h2, h3⟩, st⟩
  · dsimp only [Pt.U, Pt.locs, Pt.cells, Pt.slots] at X' e1 e2 h1 h2 h3 st
    subst h1; subst h2; subst h3
    exact Or.inl ⟨v, (T.setVm vm₁).calling g' mk (Value.ref b :: As).toArray, t, U', L, hT, X', hL, e1, e2, hq, st⟩
  · dsimp only [Pt.U, Pt.locs, Pt.cells, Pt.slots] at X' e1 e2 h1 h2 h3 st hcl
    subst h1; subst h2; subst h3
    exact Or.inr ⟨q, (T.setVm vm₁).calling g' mk (Value.ref b :: As).toArray, t, U', L, E, ce, hT, X', hL, e1, e2, hq, hce, hcv, vx_cls hW₁ hcl, st⟩
theorem vx_callFv {S SX : Type} {post : S → Prop} {px : SX → Prop} {B : S → State → Prop} {BX : String → SX → State → Prop} {AX : Nat → Prop} (hr : vx_Run5 p l e R s m args below meth c H locs cells slots mc ms (F0 m pc ls st0) rest (va_Qv post B A1 a) (vx_X px BX AX) free) (hS : va_S A0 H0 H locs) (hA : ∀ q, q < H.size → A1 q → A0 q) (hf : ∀ q, free q → A0 q) (hAX : ∀ q, q < H.size → AX q → A0 q)
    (kx : ∀ (E : String) (ce : Cell) (q9 : Addr) (u : SX) (t : State) (H1 : Heap) (locs1 : List Loc), t.heap = H1 → s.vm.Alike t.vm → px u → BX E u t → H.size ≤ H1.size → (∀ q : Nat, q < H.size → ¬ AX q → H1[q]? = H[q]?) → va_S A0 H0 H1 locs1 → H1[q9]? = some ce → ce.vm = .none → s.vm.findClass E = some ce.cls → vx_W p l e R s m args below meth c H1 locs1 (cells + mc) (slots + ms) Q (F0 m pc ls rest) q9)
    (kk : ∀ (u : S) (t : State) (H1 : Heap) (locs1 : List Loc), t.heap = H1 → s.vm.Alike t.vm → post u → B u t → H.size ≤ H1.size → (∀ q : Nat, q < H.size → ¬ A1 q → H1[q]? = H[q]?) → va_S A0 H0 H1 locs1 → W p l e R s m args below meth c H1 locs1 (cells + mc) (slots + ms) Q (F0 m (pc + 5) ls (rest))) : W p l e R s m args below meth c H locs cells slots Q (F0 m pc ls st0) := by
  intro T hT X
  rcases hr T hT X with ⟨v, st₀, t, T', L, h0, X', hL, e1, e2, ⟨⟨u, hv, hp, hb⟩, hF⟩, st⟩ | ⟨q, st₀, t, T', L, E, ce, h0, X', hL, e1, e2, ⟨u, hp, hb, hF⟩, hce, hcv, hcl, st⟩
  · cases hv
    obtain ⟨k1, k2, k3⟩ := vx_keep h0 e1 hS hA hf hL hF
    obtain ⟨t2, a1, b1⟩ := kk u t T'.heap (locs ++ L) e1.symm (by rw [← e2]; exact X'.warmed.alike) hp hb k1 k2 k3 T' rfl X'
    exact ⟨t2, st t2 a1, b1⟩
  · obtain ⟨k1, k2, k3⟩ := vx_keep h0 e1 hS hAX hf hL hF
    obtain ⟨t2, a1, b1⟩ := kx E ce q u t T'.heap (locs ++ L) e1.symm (by rw [← e2]; exact X'.warmed.alike) hp hb k1 k2 k3 (by rw [e1]; exact hce) hcv hcl T' rfl X'
    exact ⟨t2, st.trans a1, b1⟩
theorem vx_callFi {S SX : Type} {post : Int32 → S → Prop} {px : SX → Prop} {B : S → State → Prop} {BX : String → SX → State → Prop} {AX : Nat → Prop} (hr : vx_Run5 p l e R s m args below meth c H locs cells slots mc ms (F0 m pc ls st0) rest (va_Qi post B A1 a) (vx_X px BX AX) free) (hS : va_S A0 H0 H locs) (hA : ∀ q, q < H.size → A1 q → A0 q) (hf : ∀ q, free q → A0 q) (hAX : ∀ q, q < H.size → AX q → A0 q)
    (kx : ∀ (E : String) (ce : Cell) (q9 : Addr) (u : SX) (t : State) (H1 : Heap) (locs1 : List Loc), t.heap = H1 → s.vm.Alike t.vm → px u → BX E u t → H.size ≤ H1.size → (∀ q : Nat, q < H.size → ¬ AX q → H1[q]? = H[q]?) → va_S A0 H0 H1 locs1 → H1[q9]? = some ce → ce.vm = .none → s.vm.findClass E = some ce.cls → vx_W p l e R s m args below meth c H1 locs1 (cells + mc) (slots + ms) Q (F0 m pc ls rest) q9)
    (kk : ∀ (r : Int32) (u : S) (t : State) (H1 : Heap) (locs1 : List Loc), t.heap = H1 → s.vm.Alike t.vm → post r u → B u t → H.size ≤ H1.size → (∀ q : Nat, q < H.size → ¬ A1 q → H1[q]? = H[q]?) → va_S A0 H0 H1 locs1 → W p l e R s m args below meth c H1 locs1 (cells + mc) (slots + ms) Q (F0 m (pc + 5) ls (.int r :: rest))) : W p l e R s m args below meth c H locs cells slots Q (F0 m pc ls st0) := by
  intro T hT X
  rcases hr T hT X with ⟨v, st₀, t, T', L, h0, X', hL, e1, e2, ⟨⟨r, u, hv, hp, hb⟩, hF⟩, st⟩ | ⟨q, st₀, t, T', L, E, ce, h0, X', hL, e1, e2, ⟨u, hp, hb, hF⟩, hce, hcv, hcl, st⟩
  · cases hv
    obtain ⟨k1, k2, k3⟩ := vx_keep h0 e1 hS hA hf hL hF
    obtain ⟨t2, a1, b1⟩ := kk r u t T'.heap (locs ++ L) e1.symm (by rw [← e2]; exact X'.warmed.alike) hp hb k1 k2 k3 T' rfl X'
    exact ⟨t2, st t2 a1, b1⟩
  · obtain ⟨k1, k2, k3⟩ := vx_keep h0 e1 hS hAX hf hL hF
    obtain ⟨t2, a1, b1⟩ := kx E ce q u t T'.heap (locs ++ L) e1.symm (by rw [← e2]; exact X'.warmed.alike) hp hb k1 k2 k3 (by rw [e1]; exact hce) hcv hcl T' rfl X'
    exact ⟨t2, st.trans a1, b1⟩
theorem vx_callFl {S SX : Type} {post : Int64 → S → Prop} {px : SX → Prop} {B : S → State → Prop} {BX : String → SX → State → Prop} {AX : Nat → Prop} (hr : vx_Run5 p l e R s m args below meth c H locs cells slots mc ms (F0 m pc ls st0) rest (va_Ql post B A1 a) (vx_X px BX AX) free) (hS : va_S A0 H0 H locs) (hA : ∀ q, q < H.size → A1 q → A0 q) (hf : ∀ q, free q → A0 q) (hAX : ∀ q, q < H.size → AX q → A0 q)
    (kx : ∀ (E : String) (ce : Cell) (q9 : Addr) (u : SX) (t : State) (H1 : Heap) (locs1 : List Loc), t.heap = H1 → s.vm.Alike t.vm → px u → BX E u t → H.size ≤ H1.size → (∀ q : Nat, q < H.size → ¬ AX q → H1[q]? = H[q]?) → va_S A0 H0 H1 locs1 → H1[q9]? = some ce → ce.vm = .none → s.vm.findClass E = some ce.cls → vx_W p l e R s m args below meth c H1 locs1 (cells + mc) (slots + ms) Q (F0 m pc ls rest) q9)
    (kk : ∀ (r : Int64) (u : S) (t : State) (H1 : Heap) (locs1 : List Loc), t.heap = H1 → s.vm.Alike t.vm → post r u → B u t → H.size ≤ H1.size → (∀ q : Nat, q < H.size → ¬ A1 q → H1[q]? = H[q]?) → va_S A0 H0 H1 locs1 → W p l e R s m args below meth c H1 locs1 (cells + mc) (slots + ms) Q (F0 m (pc + 5) ls (.long r :: rest))) : W p l e R s m args below meth c H locs cells slots Q (F0 m pc ls st0) := by
  intro T hT X
  rcases hr T hT X with ⟨v, st₀, t, T', L, h0, X', hL, e1, e2, ⟨⟨r, u, hv, hp, hb⟩, hF⟩, st⟩ | ⟨q, st₀, t, T', L, E, ce, h0, X', hL, e1, e2, ⟨u, hp, hb, hF⟩, hce, hcv, hcl, st⟩
  · cases hv
    obtain ⟨k1, k2, k3⟩ := vx_keep h0 e1 hS hA hf hL hF
    obtain ⟨t2, a1, b1⟩ := kk r u t T'.heap (locs ++ L) e1.symm (by rw [← e2]; exact X'.warmed.alike) hp hb k1 k2 k3 T' rfl X'
    exact ⟨t2, st t2 a1, b1⟩
  · obtain ⟨k1, k2, k3⟩ := vx_keep h0 e1 hS hAX hf hL hF
    obtain ⟨t2, a1, b1⟩ := kx E ce q u t T'.heap (locs ++ L) e1.symm (by rw [← e2]; exact X'.warmed.alike) hp hb k1 k2 k3 (by rw [e1]; exact hce) hcv hcl T' rfl X'
    exact ⟨t2, st.trans a1, b1⟩
theorem vx_callFf {S SX : Type} {post : UInt32 → S → Prop} {px : SX → Prop} {B : S → State → Prop} {BX : String → SX → State → Prop} {AX : Nat → Prop} (hr : vx_Run5 p l e R s m args below meth c H locs cells slots mc ms (F0 m pc ls st0) rest (va_Qf post B A1 a) (vx_X px BX AX) free) (hS : va_S A0 H0 H locs) (hA : ∀ q, q < H.size → A1 q → A0 q) (hf : ∀ q, free q → A0 q) (hAX : ∀ q, q < H.size → AX q → A0 q)
    (kx : ∀ (E : String) (ce : Cell) (q9 : Addr) (u : SX) (t : State) (H1 : Heap) (locs1 : List Loc), t.heap = H1 → s.vm.Alike t.vm → px u → BX E u t → H.size ≤ H1.size → (∀ q : Nat, q < H.size → ¬ AX q → H1[q]? = H[q]?) → va_S A0 H0 H1 locs1 → H1[q9]? = some ce → ce.vm = .none → s.vm.findClass E = some ce.cls → vx_W p l e R s m args below meth c H1 locs1 (cells + mc) (slots + ms) Q (F0 m pc ls rest) q9)
    (kk : ∀ (r : UInt32) (u : S) (t : State) (H1 : Heap) (locs1 : List Loc), t.heap = H1 → s.vm.Alike t.vm → post r u → B u t → H.size ≤ H1.size → (∀ q : Nat, q < H.size → ¬ A1 q → H1[q]? = H[q]?) → va_S A0 H0 H1 locs1 → W p l e R s m args below meth c H1 locs1 (cells + mc) (slots + ms) Q (F0 m (pc + 5) ls (.float r :: rest))) : W p l e R s m args below meth c H locs cells slots Q (F0 m pc ls st0) := by
  intro T hT X
  rcases hr T hT X with ⟨v, st₀, t, T', L, h0, X', hL, e1, e2, ⟨⟨r, u, hv, hp, hb⟩, hF⟩, st⟩ | ⟨q, st₀, t, T', L, E, ce, h0, X', hL, e1, e2, ⟨u, hp, hb, hF⟩, hce, hcv, hcl, st⟩
  · cases hv
    obtain ⟨k1, k2, k3⟩ := vx_keep h0 e1 hS hA hf hL hF
    obtain ⟨t2, a1, b1⟩ := kk r u t T'.heap (locs ++ L) e1.symm (by rw [← e2]; exact X'.warmed.alike) hp hb k1 k2 k3 T' rfl X'
    exact ⟨t2, st t2 a1, b1⟩
  · obtain ⟨k1, k2, k3⟩ := vx_keep h0 e1 hS hAX hf hL hF
    obtain ⟨t2, a1, b1⟩ := kx E ce q u t T'.heap (locs ++ L) e1.symm (by rw [← e2]; exact X'.warmed.alike) hp hb k1 k2 k3 (by rw [e1]; exact hce) hcv hcl T' rfl X'
    exact ⟨t2, st.trans a1, b1⟩
theorem vx_callFd {S SX : Type} {post : UInt64 → S → Prop} {px : SX → Prop} {B : S → State → Prop} {BX : String → SX → State → Prop} {AX : Nat → Prop} (hr : vx_Run5 p l e R s m args below meth c H locs cells slots mc ms (F0 m pc ls st0) rest (va_Qd post B A1 a) (vx_X px BX AX) free) (hS : va_S A0 H0 H locs) (hA : ∀ q, q < H.size → A1 q → A0 q) (hf : ∀ q, free q → A0 q) (hAX : ∀ q, q < H.size → AX q → A0 q)
    (kx : ∀ (E : String) (ce : Cell) (q9 : Addr) (u : SX) (t : State) (H1 : Heap) (locs1 : List Loc), t.heap = H1 → s.vm.Alike t.vm → px u → BX E u t → H.size ≤ H1.size → (∀ q : Nat, q < H.size → ¬ AX q → H1[q]? = H[q]?) → va_S A0 H0 H1 locs1 → H1[q9]? = some ce → ce.vm = .none → s.vm.findClass E = some ce.cls → vx_W p l e R s m args below meth c H1 locs1 (cells + mc) (slots + ms) Q (F0 m pc ls rest) q9)
    (kk : ∀ (r : UInt64) (u : S) (t : State) (H1 : Heap) (locs1 : List Loc), t.heap = H1 → s.vm.Alike t.vm → post r u → B u t → H.size ≤ H1.size → (∀ q : Nat, q < H.size → ¬ A1 q → H1[q]? = H[q]?) → va_S A0 H0 H1 locs1 → W p l e R s m args below meth c H1 locs1 (cells + mc) (slots + ms) Q (F0 m (pc + 5) ls (.double r :: rest))) : W p l e R s m args below meth c H locs cells slots Q (F0 m pc ls st0) := by
  intro T hT X
  rcases hr T hT X with ⟨v, st₀, t, T', L, h0, X', hL, e1, e2, ⟨⟨r, u, hv, hp, hb⟩, hF⟩, st⟩ | ⟨q, st₀, t, T', L, E, ce, h0, X', hL, e1, e2, ⟨u, hp, hb, hF⟩, hce, hcv, hcl, st⟩
  · cases hv
    obtain ⟨k1, k2, k3⟩ := vx_keep h0 e1 hS hA hf hL hF
    obtain ⟨t2, a1, b1⟩ := kk r u t T'.heap (locs ++ L) e1.symm (by rw [← e2]; exact X'.warmed.alike) hp hb k1 k2 k3 T' rfl X'
    exact ⟨t2, st t2 a1, b1⟩
  · obtain ⟨k1, k2, k3⟩ := vx_keep h0 e1 hS hAX hf hL hF
    obtain ⟨t2, a1, b1⟩ := kx E ce q u t T'.heap (locs ++ L) e1.symm (by rw [← e2]; exact X'.warmed.alike) hp hb k1 k2 k3 (by rw [e1]; exact hce) hcv hcl T' rfl X'
    exact ⟨t2, st.trans a1, b1⟩
end
/-! ===== END ===== -/
/-! ===== BEGIN by an interface, a method with a table of its own that may throw (follows va_callIFW, va_runFW) ===== -/
section
variable {p : Program} {l : Launch} {e : Env} {R : Room} {s : State} {m : MethodId} {args : Array Value} {below : List Frame} {meth : Method} {c : Code} {H : Heap} {locs : List Loc} {cells slots : Nat}
theorem vx_callIFW {T : State} (X : Stand p l e R s m args below meth c T locs cells slots) (hexec : p.tables.exec = Jvm.exec) {own C : String} {index count : Nat} {x y : MethodName} {bytes : ByteArray} {maxL : Nat} {ret : Option FieldType} {hh : List (Nat × Nat × Nat × Nat)}
    (hown : s.vm.findClass own = some m.cls) (hlink : (Cond.methodLink own index x).before args s = true) (hdecl : (Cond.declares x).before args s = true) (hface : (Cond.interfaceMethod x.cls x.cls x.name x.desc).before args s = true)
    (hsel : (Cond.selects C x y).before args s = true) (hinst : (Cond.instanceMethod y).before args s = true) (hpub : (Cond.publicMethod y).before args s = true) (hunh : (Cond.unhidden C x.name x.desc).before args s = true)
    (hcast : (Cond.castable C x.cls).before args s = true) (hcode : (Cond.codeWith y bytes maxL ret hh).before args s = true) (hx : x.cls ≠ "java/lang/invoke/MethodHandle" ∧ x.cls ≠ "java/lang/invoke/VarHandle")
    {W : Nat} {Pre : Pt → Array Value → Prop} {Post : Pt → Array Value → Option Value → Pt → Prop} {PostX : Pt → Array Value → Addr → Pt → Prop} (hK : vx_Back l R p e below s args y 5 W Pre Post PostX)
    {b : Addr} {cellB : Cell} {kB : Class} (hcell : T.heap[b]? = some cellB) (hobj : cellB.vm.isStatics = false) (hcls : s.vm.findClass C = some cellB.cls) (hkB : s.vm.classes[cellB.cls]? = some kB)
    {g : JFrame} (hg : g.method = m) (hsize : g.locals.size = c.maxLocals) {argsL rest : List Value} (hlen : ∀ sig, parseMethodDescriptor x.desc = some sig → argsL.length = sig.parameters.length)
    (hstack : g.stack = argsL.reverse ++ .ref b :: rest) (hW : 2 * g.monitorRoom + (rest.map fun v => v.category).sum ≤ W) (hdg : decode c.code g.pc = .ok (.invokeinterface index count, 5))
    (hpre : ∀ vm₁, s.WarmedH vm₁ → Pre ⟨T.setVm vm₁, locs, cells, slots⟩ (Value.ref b :: argsL).toArray) :
    (∃ (v : Option Value) (vm₁ : Vm) (B : Pt), s.WarmedH vm₁ ∧ Stand p l e R s m args below meth c B.U B.locs B.cells B.slots ∧ Post ⟨T.setVm vm₁, locs, cells, slots⟩ (Value.ref b :: argsL).toArray v B ∧
      ∀ target, Steps p.tables e below (B.U.setTop { g with pc := g.pc + 5, stack := v.toList ++ rest }) target → Steps p.tables e below (T.setTop g) target) ∨
    (∃ (q : Addr) (vm₁ : Vm) (B : Pt), s.WarmedH vm₁ ∧ Stand p l e R s m args below meth c B.U B.locs B.cells B.slots ∧ PostX ⟨T.setVm vm₁, locs, cells, slots⟩ (Value.ref b :: argsL).toArray q B ∧
      Steps p.tables e below (T.setTop g) ((B.U.setTop { g with stack := rest }).pushFrame (.throwing q))) := by
  obtain ⟨r0, r, hn, hrm, hstR, hsigR⟩ := Cond.declares_spec hdecl
  obtain ⟨cL, kL, r1, hcL, hkL, hiL, hfoundL, hn1⟩ := Cond.interfaceMethod_spec hface
  cases hn.symm.trans hn1
  have hr0cls : r0.cls = cL := Option.some.inj ((findClass_of_methodNamed hn).symm.trans hcL)
  obtain ⟨hnameR, hdescR⟩ := name_of_methodNamed hn hrm
  obtain ⟨mk, methM, hnamed, hmethM, -, habM⟩ := Cond.instanceMethod_spec hinst
  obtain ⟨c2, r2, m2, q1, q2, q3, q4, -⟩ := Cond.selects_spec hsel
  cases hcls.symm.trans q1
  cases hfoundL.symm.trans q2
  cases hnamed.symm.trans q3
  have hselP : selectMethod e.platform s.vm cellB.cls r0 = .method mk := by rw [Launch.admits_selectMethod X.admits]; exact q4
  have hpubM : hasFlag methM.accessFlags Acc.public_ = true := Cond.publicMethod_spec hnamed hmethM hpub
  have hway : ((cellB.cls :: s.vm.superclasses cellB.cls).any fun k => (declaredIn s.vm r.name r.desc k).any fun (_, z) => z.isPrivate || z.isStatic) = false := by
    rw [hnameR, hdescR]; exact Cond.unhidden_spec hcls hunh
  obtain ⟨c3, t3, w1, w2, w3⟩ := Cond.castable_spec hcast
  cases hcls.symm.trans w1
  cases hcL.symm.trans w2
  obtain ⟨vm₁, X₁, hstep₁⟩ := X.invokeinterface hexec hown hlink hn hrm hstR (by rw [hr0cls]; exact hkL) hiL hx (a := b) (cell := cellB) (kcell := kB) hcell
    (fun z h => by rw [h] at hobj; cases hobj) hkB (by rw [hr0cls]; exact w3) hselP hmethM hway hpubM habM (g := g) hg (argsL := argsL) (rest := rest) (hlen _ hsigR) hstack hdg
  rcases hK m meth c ⟨T.setVm vm₁, locs, cells, slots⟩ { g with stack := rest } (.invokeinterface index count) mk (Value.ref b :: argsL).toArray X₁ hg hsize hdg hW (X₁.named hnamed) (hpre vm₁ X₁.warmed) with ⟨v, B, X', hpost, hsteps⟩ | ⟨q, B, X', hpost, hsteps⟩
  · exact Or.inl ⟨v, vm₁, B, X₁.warmed, X', hpost, fun target h => hstep₁ _ fun acts => by rw [doInvoke_state]; exact hsteps.trans h⟩
  · exact Or.inr ⟨q, vm₁, B, X₁.warmed, X', hpost, hstep₁ _ fun acts => by rw [doInvoke_state]; exact hsteps⟩
theorem vx_runFW {x y : MethodName} {bytes cc : ByteArray} {maxL nL mc ms n index count : Nat} {ret : Option FieldType} {hh : List (Nat × Nat × Nat × Nat)} {ws : List Cond} {rm : Room} {Pc : Array Value → State → Prop} {Qc : Array Value → State → Outcome → State → Prop} {XC : String → State → State → Prop} {free : Addr → Prop} {Ts : List Cond} {own C : String} {cC : ClassId} {b : Addr} {As rest : List Value} {g : JFrame}
    (hat : ClassAt s C cC) (S : CallFix p m c cc nL s args Ts own) (hM : vx_Met l y ws rm Pc Qc XC mc ms free) (cw : va_CIW R s args own C index x y bytes maxL ret hh ws rm mc ms n) (hp : PreV s H C b Pc As)
    (hg : g.method = m) (hn : As.length = n) (hsize : g.locals.size = nL) (hstack : g.stack = As.reverse ++ .ref b :: rest) (hW : 2 * g.monitorRoom + (rest.map fun v => v.category).sum ≤ 8) (hdg : decode cc g.pc = .ok (.invokeinterface index count, 5)) (hf : cells + mc ≤ R.cells ∧ slots + ms ≤ R.slots) :
    vx_Run5 p l e R s m args below meth c H locs cells slots mc ms g rest (Qc (Value.ref b :: As).toArray) XC free := by
  obtain ⟨hrc, hrs, hfr, hlo, hws, hcw⟩ := cw.back
  have hini := cw.init
  have hK : vx_Back l R p e below s args y 5 8 (PreOf R mc ms Pc) (PostOf Qc mc ms free) (vx_Post XC mc ms free) := vx_backW (hh := hh) (bytes := bytes) (maxL := maxL) (ret := ret) hM hp.1 hrc hrs hfr hlo hws hcw (fun a' U hW => word_at hW (Or.inl (by first | rfl | simp [Cond.onTables, Cond.keeps, Cond.steady])) hini)
  obtain ⟨hx, hb, hml, ho, -⟩ := S
  obtain ⟨-, ⟨cellB, hcB, hoB, hclB⟩, hPc⟩ := hp
  obtain ⟨hfc, kB, hkB, -⟩ := hat
  cases hfc.symm.trans hclB
  intro T hT X
  rcases vx_callIFW X hx (C := C) (hh := hh) (bytes := bytes) (maxL := maxL) (ret := ret) ho cw.link cw.decl cw.face cw.sel cw.inst cw.pub cw.unh cw.cast cw.code cw.notMH hK (by rw [hT]; exact hcB) hoB hclB hkB hg (hsize.trans hml.symm) (argsL := As) (rest := rest) (fun sig h => hn.trans (cw.len sig h)) hstack hW (by rw [hb]; exact hdg)
    (fun vm₁ hW₁ => ⟨hf.1, hf.2, hPc (T.setVm vm₁) hT hW₁⟩) with ⟨v, vm₁, ⟨U', l2, c2, s2⟩, hW₁, X', ⟨g', mk, t, L, e1, e2, hq, h1, hL, h2, h3⟩, st⟩ | ⟨q, vm₁, ⟨U', l2, c2, s2⟩, hW₁, X', ⟨g', mk, t, L, E, ce, e1, e2, hq, hce, hcv, hcl, h1, hL, h2, h3⟩, st⟩
  · dsimp only [Pt.U, Pt.locs, Pt.cells, Pt.slots] at X' e1 e2 h1 h2 h3 st
    subst h1; subst h2; subst h3
    exact Or.inl ⟨v, (T.setVm vm₁).calling g' mk (Value.ref b :: As).toArray, t, U', L, hT, X', hL, e1, e2, hq, st⟩
  · dsimp only [Pt.U, Pt.locs, Pt.cells, Pt.slots] at X' e1 e2 h1 h2 h3 st hcl
    subst h1; subst h2; subst h3
    exact Or.inr ⟨q, (T.setVm vm₁).calling g' mk (Value.ref b :: As).toArray, t, U', L, E, ce, hT, X', hL, e1, e2, hq, hce, hcv, vx_cls hW₁ hcl, st⟩
end
/-! ===== END ===== -/
/-! ===== BEGIN .. of methods that hand back an object of the pool ===== -/
section
variable {p : Program} {l : Launch} {e : Env} {R : Room} {s : State} {m : MethodId} {args : Array Value} {below : List Frame} {meth : Method} {c : Code} {H : Heap} {locs : List Loc} {cells slots : Nat} {Q : State → Prop}
variable {mc ms : Nat} {free : Addr → Prop} {A0 A1 : Nat → Prop} {H0 : Heap} {a : Array Value} {pc : Nat} {ls : Array Slot} {st0 rest : List Value}
theorem vx_callq {S SX : Type} {post : Option Nat → S → Prop} {px : SX → Prop} {B : S → State → Prop} {BX : String → SX → State → Prop} {AX : Nat → Prop} (hr : vx_Run p l e R s m args below meth c H locs cells slots mc ms (F0 m pc ls st0) rest (va_Qq post B A1 a) (vx_X px BX AX) free) (hS : va_S A0 H0 H locs) (hA : ∀ q, q < H.size → A1 q → A0 q) (hf : ∀ q, free q → A0 q) (hAX : ∀ q, q < H.size → AX q → A0 q)
    (kx : ∀ (E : String) (ce : Cell) (q9 : Addr) (u : SX) (t : State) (H1 : Heap) (locs1 : List Loc), t.heap = H1 → s.vm.Alike t.vm → px u → BX E u t → H.size ≤ H1.size → (∀ q : Nat, q < H.size → ¬ AX q → H1[q]? = H[q]?) → va_S A0 H0 H1 locs1 → H1[q9]? = some ce → ce.vm = .none → s.vm.findClass E = some ce.cls → vx_W p l e R s m args below meth c H1 locs1 (cells + mc) (slots + ms) Q (F0 m pc ls rest) q9)
    (kk : ∀ (r : Option Nat) (u : S) (t : State) (H1 : Heap) (locs1 : List Loc), t.heap = H1 → s.vm.Alike t.vm → post r u → B u t → H.size ≤ H1.size → (∀ q : Nat, q < H.size → ¬ A1 q → H1[q]? = H[q]?) → va_S A0 H0 H1 locs1 → W p l e R s m args below meth c H1 locs1 (cells + mc) (slots + ms) Q (F0 m (pc + 3) ls (va_rf r :: rest))) : W p l e R s m args below meth c H locs cells slots Q (F0 m pc ls st0) := by
  intro T hT X
  rcases hr T hT X with ⟨v, st₀, t, T', L, h0, X', hL, e1, e2, ⟨⟨r, u, hv, hp, hb⟩, hF⟩, st⟩ | ⟨q, st₀, t, T', L, E, ce, h0, X', hL, e1, e2, ⟨u, hp, hb, hF⟩, hce, hcv, hcl, st⟩
  · cases hv
    obtain ⟨k1, k2, k3⟩ := vx_keep h0 e1 hS hA hf hL hF
    obtain ⟨t2, a1, b1⟩ := kk r u t T'.heap (locs ++ L) e1.symm (by rw [← e2]; exact X'.warmed.alike) hp hb k1 k2 k3 T' rfl X'
    exact ⟨t2, st t2 a1, b1⟩
  · obtain ⟨k1, k2, k3⟩ := vx_keep h0 e1 hS hAX hf hL hF
    obtain ⟨t2, a1, b1⟩ := kx E ce q u t T'.heap (locs ++ L) e1.symm (by rw [← e2]; exact X'.warmed.alike) hp hb k1 k2 k3 (by rw [e1]; exact hce) hcv hcl T' rfl X'
    exact ⟨t2, st.trans a1, b1⟩
end
/-! ===== END ===== -/
/-! ===== BEGIN .. a constant ===== -/
section
variable {p : Program} {l : Launch} {e : Env} {R : Room} {s : State} {m : MethodId} {args : Array Value} {below : List Frame} {meth : Method} {c : Code} {H : Heap} {locs : List Loc} {cells slots : Nat} {Q : State → Prop}
variable {mc ms : Nat} {free : Addr → Prop} {A0 A1 : Nat → Prop} {H0 : Heap} {a : Array Value} {pc : Nat} {ls : Array Slot} {st0 rest : List Value}
theorem vx_calle {ad : Nat → Nat} {S SX : Type} {post : Option Nat → S → Prop} {px : SX → Prop} {B : S → State → Prop} {BX : String → SX → State → Prop} {AX : Nat → Prop} (hr : vx_Run p l e R s m args below meth c H locs cells slots mc ms (F0 m pc ls st0) rest (va_Qe ad post B A1 a) (vx_X px BX AX) free) (hS : va_S A0 H0 H locs) (hA : ∀ q, q < H.size → A1 q → A0 q) (hf : ∀ q, free q → A0 q) (hAX : ∀ q, q < H.size → AX q → A0 q)
    (kx : ∀ (E : String) (ce : Cell) (q9 : Addr) (u : SX) (t : State) (H1 : Heap) (locs1 : List Loc), t.heap = H1 → s.vm.Alike t.vm → px u → BX E u t → H.size ≤ H1.size → (∀ q : Nat, q < H.size → ¬ AX q → H1[q]? = H[q]?) → va_S A0 H0 H1 locs1 → H1[q9]? = some ce → ce.vm = .none → s.vm.findClass E = some ce.cls → vx_W p l e R s m args below meth c H1 locs1 (cells + mc) (slots + ms) Q (F0 m pc ls rest) q9)
    (kk : ∀ (r : Option Nat) (u : S) (t : State) (H1 : Heap) (locs1 : List Loc), t.heap = H1 → s.vm.Alike t.vm → post r u → B u t → H.size ≤ H1.size → (∀ q : Nat, q < H.size → ¬ A1 q → H1[q]? = H[q]?) → va_S A0 H0 H1 locs1 → W p l e R s m args below meth c H1 locs1 (cells + mc) (slots + ms) Q (F0 m (pc + 3) ls (va_re ad r :: rest))) : W p l e R s m args below meth c H locs cells slots Q (F0 m pc ls st0) := by
  intro T hT X
  rcases hr T hT X with ⟨v, st₀, t, T', L, h0, X', hL, e1, e2, ⟨⟨r, u, hv, hp, hb⟩, hF⟩, st⟩ | ⟨q, st₀, t, T', L, E, ce, h0, X', hL, e1, e2, ⟨u, hp, hb, hF⟩, hce, hcv, hcl, st⟩
  · cases hv
    obtain ⟨k1, k2, k3⟩ := vx_keep h0 e1 hS hA hf hL hF
    obtain ⟨t2, a1, b1⟩ := kk r u t T'.heap (locs ++ L) e1.symm (by rw [← e2]; exact X'.warmed.alike) hp hb k1 k2 k3 T' rfl X'
    exact ⟨t2, st t2 a1, b1⟩
  · obtain ⟨k1, k2, k3⟩ := vx_keep h0 e1 hS hAX hf hL hF
    obtain ⟨t2, a1, b1⟩ := kx E ce q u t T'.heap (locs ++ L) e1.symm (by rw [← e2]; exact X'.warmed.alike) hp hb k1 k2 k3 (by rw [e1]; exact hce) hcv hcl T' rfl X'
    exact ⟨t2, st.trans a1, b1⟩
end
/-! ===== END ===== -/
/-! ===== BEGIN .. by an interface, an object ===== -/
section
variable {p : Program} {l : Launch} {e : Env} {R : Room} {s : State} {m : MethodId} {args : Array Value} {below : List Frame} {meth : Method} {c : Code} {H : Heap} {locs : List Loc} {cells slots : Nat} {Q : State → Prop}
variable {mc ms : Nat} {free : Addr → Prop} {A0 A1 : Nat → Prop} {H0 : Heap} {a : Array Value} {pc : Nat} {ls : Array Slot} {st0 rest : List Value}
theorem vx_callFq {S SX : Type} {post : Option Nat → S → Prop} {px : SX → Prop} {B : S → State → Prop} {BX : String → SX → State → Prop} {AX : Nat → Prop} (hr : vx_Run5 p l e R s m args below meth c H locs cells slots mc ms (F0 m pc ls st0) rest (va_Qq post B A1 a) (vx_X px BX AX) free) (hS : va_S A0 H0 H locs) (hA : ∀ q, q < H.size → A1 q → A0 q) (hf : ∀ q, free q → A0 q) (hAX : ∀ q, q < H.size → AX q → A0 q)
    (kx : ∀ (E : String) (ce : Cell) (q9 : Addr) (u : SX) (t : State) (H1 : Heap) (locs1 : List Loc), t.heap = H1 → s.vm.Alike t.vm → px u → BX E u t → H.size ≤ H1.size → (∀ q : Nat, q < H.size → ¬ AX q → H1[q]? = H[q]?) → va_S A0 H0 H1 locs1 → H1[q9]? = some ce → ce.vm = .none → s.vm.findClass E = some ce.cls → vx_W p l e R s m args below meth c H1 locs1 (cells + mc) (slots + ms) Q (F0 m pc ls rest) q9)
    (kk : ∀ (r : Option Nat) (u : S) (t : State) (H1 : Heap) (locs1 : List Loc), t.heap = H1 → s.vm.Alike t.vm → post r u → B u t → H.size ≤ H1.size → (∀ q : Nat, q < H.size → ¬ A1 q → H1[q]? = H[q]?) → va_S A0 H0 H1 locs1 → W p l e R s m args below meth c H1 locs1 (cells + mc) (slots + ms) Q (F0 m (pc + 5) ls (va_rf r :: rest))) : W p l e R s m args below meth c H locs cells slots Q (F0 m pc ls st0) := by
  intro T hT X
  rcases hr T hT X with ⟨v, st₀, t, T', L, h0, X', hL, e1, e2, ⟨⟨r, u, hv, hp, hb⟩, hF⟩, st⟩ | ⟨q, st₀, t, T', L, E, ce, h0, X', hL, e1, e2, ⟨u, hp, hb, hF⟩, hce, hcv, hcl, st⟩
  · cases hv
    obtain ⟨k1, k2, k3⟩ := vx_keep h0 e1 hS hA hf hL hF
    obtain ⟨t2, a1, b1⟩ := kk r u t T'.heap (locs ++ L) e1.symm (by rw [← e2]; exact X'.warmed.alike) hp hb k1 k2 k3 T' rfl X'
    exact ⟨t2, st t2 a1, b1⟩
  · obtain ⟨k1, k2, k3⟩ := vx_keep h0 e1 hS hAX hf hL hF
    obtain ⟨t2, a1, b1⟩ := kx E ce q u t T'.heap (locs ++ L) e1.symm (by rw [← e2]; exact X'.warmed.alike) hp hb k1 k2 k3 (by rw [e1]; exact hce) hcv hcl T' rfl X'
    exact ⟨t2, st.trans a1, b1⟩
end
/-! ===== END ===== -/
/-! ===== BEGIN .. by an interface, a constant ===== -/
section
variable {p : Program} {l : Launch} {e : Env} {R : Room} {s : State} {m : MethodId} {args : Array Value} {below : List Frame} {meth : Method} {c : Code} {H : Heap} {locs : List Loc} {cells slots : Nat} {Q : State → Prop}
variable {mc ms : Nat} {free : Addr → Prop} {A0 A1 : Nat → Prop} {H0 : Heap} {a : Array Value} {pc : Nat} {ls : Array Slot} {st0 rest : List Value}
theorem vx_callFe {ad : Nat → Nat} {S SX : Type} {post : Option Nat → S → Prop} {px : SX → Prop} {B : S → State → Prop} {BX : String → SX → State → Prop} {AX : Nat → Prop} (hr : vx_Run5 p l e R s m args below meth c H locs cells slots mc ms (F0 m pc ls st0) rest (va_Qe ad post B A1 a) (vx_X px BX AX) free) (hS : va_S A0 H0 H locs) (hA : ∀ q, q < H.size → A1 q → A0 q) (hf : ∀ q, free q → A0 q) (hAX : ∀ q, q < H.size → AX q → A0 q)
    (kx : ∀ (E : String) (ce : Cell) (q9 : Addr) (u : SX) (t : State) (H1 : Heap) (locs1 : List Loc), t.heap = H1 → s.vm.Alike t.vm → px u → BX E u t → H.size ≤ H1.size → (∀ q : Nat, q < H.size → ¬ AX q → H1[q]? = H[q]?) → va_S A0 H0 H1 locs1 → H1[q9]? = some ce → ce.vm = .none → s.vm.findClass E = some ce.cls → vx_W p l e R s m args below meth c H1 locs1 (cells + mc) (slots + ms) Q (F0 m pc ls rest) q9)
    (kk : ∀ (r : Option Nat) (u : S) (t : State) (H1 : Heap) (locs1 : List Loc), t.heap = H1 → s.vm.Alike t.vm → post r u → B u t → H.size ≤ H1.size → (∀ q : Nat, q < H.size → ¬ A1 q → H1[q]? = H[q]?) → va_S A0 H0 H1 locs1 → W p l e R s m args below meth c H1 locs1 (cells + mc) (slots + ms) Q (F0 m (pc + 5) ls (va_re ad r :: rest))) : W p l e R s m args below meth c H locs cells slots Q (F0 m pc ls st0) := by
  intro T hT X
  rcases hr T hT X with ⟨v, st₀, t, T', L, h0, X', hL, e1, e2, ⟨⟨r, u, hv, hp, hb⟩, hF⟩, st⟩ | ⟨q, st₀, t, T', L, E, ce, h0, X', hL, e1, e2, ⟨u, hp, hb, hF⟩, hce, hcv, hcl, st⟩
  · cases hv
    obtain ⟨k1, k2, k3⟩ := vx_keep h0 e1 hS hA hf hL hF
    obtain ⟨t2, a1, b1⟩ := kk r u t T'.heap (locs ++ L) e1.symm (by rw [← e2]; exact X'.warmed.alike) hp hb k1 k2 k3 T' rfl X'
    exact ⟨t2, st t2 a1, b1⟩
  · obtain ⟨k1, k2, k3⟩ := vx_keep h0 e1 hS hAX hf hL hF
    obtain ⟨t2, a1, b1⟩ := kx E ce q u t T'.heap (locs ++ L) e1.symm (by rw [← e2]; exact X'.warmed.alike) hp hb k1 k2 k3 (by rw [e1]; exact hce) hcv hcl T' rfl X'
    exact ⟨t2, st.trans a1, b1⟩
end
/-! ===== END ===== -/
/-! ===== BEGIN what the machine throws by itself: null at a field, at athrow ===== -/
section VXM2
variable {p : Program} {l : Launch} {e : Env} {R : Room} {s : State} {m : MethodId} {args : Array Value} {below : List Frame} {meth : Method} {c : Code} {H : Heap} {locs : List Loc} {cells slots : Nat}
variable {Q : State → Prop} {cc : ByteArray} {pc : Nat} {ls : Array Slot} {rest : List Value}
theorem vx_getfN {D cl tys} {own ref C : String} {T : u_T} {N ci index : Nat} {Ts : List Cond} (hexec : p.tables.exec = Jvm.exec) (hb : c.code = cc) (hts : ∀ w ∈ Ts, w.before args s = true) (hin : ∀ w ∈ u_ws C T N, w ∈ Ts) (hown : s.vm.findClass own = some m.cls) (hK : va_K D cl tys s) (hc : cl[ci]? = some (C, T, N)) (k : Nat) (hk : k < N) (hlink : (Cond.fieldLink own index ref (T k).2.1 (T k).2.2.1).before args s = true) (hsame : ∀ x, s.fieldFound? (T k).1 (T k).2.1 (T k).2.2.1 = some x → s.fieldFound? ref (T k).2.1 (T k).2.2.1 = some x) (hdg : decode cc pc = .ok (.getfield index, 3)) (kk : vx_NoteN p l e R s m args below meth c H locs cells slots Q (F0 m pc ls rest)) : W p l e R s m args below meth c H locs cells slots Q (F0 m pc ls (.null :: rest)) := by
  obtain ⟨hS, hfc, kC, hkC, -⟩ := hK.1 ci _ hc
  obtain ⟨cf, kf, fi, f, hi, -⟩ := hS k hk
  intro U hU X
  obtain ⟨vm', X1, st1⟩ := X.getfieldNull hexec hown hlink (hsame _ hi) (u_facts hfc hkC (u_lays hts hin hk) hi).1 (g := F0 m pc ls (.null :: rest)) rfl (rest := rest) rfl (by rw [hb]; exact hdg)
  obtain ⟨t, st, q⟩ := kk (U.setVm vm') hU X1
  exact ⟨t, st1 t st, q⟩
theorem vx_getfNN {D cl tys} {own ref C host : String} {T : u_T} {N ci index : Nat} {Ts : List Cond} (hexec : p.tables.exec = Jvm.exec) (hb : c.code = cc) (hts : ∀ w ∈ Ts, w.before args s = true) (hin : ∀ w ∈ u_ws C T N, w ∈ Ts) (hown : s.vm.findClass own = some m.cls) (hK : va_K D cl tys s) (hc : cl[ci]? = some (C, T, N)) (k : Nat) (hk : k < N) (hlink : (Cond.fieldLinkNest own index ref (T k).2.1 (T k).2.2.1 host).before args s = true) (hsame : ∀ x, s.fieldFound? (T k).1 (T k).2.1 (T k).2.2.1 = some x → s.fieldFound? ref (T k).2.1 (T k).2.2.1 = some x) (hdg : decode cc pc = .ok (.getfield index, 3)) (kk : vx_NoteN p l e R s m args below meth c H locs cells slots Q (F0 m pc ls rest)) : W p l e R s m args below meth c H locs cells slots Q (F0 m pc ls (.null :: rest)) := by
  obtain ⟨hS, hfc, kC, hkC, -⟩ := hK.1 ci _ hc
  obtain ⟨cf, kf, fi, f, hi, -⟩ := hS k hk
  intro U hU X
  obtain ⟨vm', X1, st1⟩ := X.getfieldNullNest hexec hown hlink (hsame _ hi) (u_facts hfc hkC (u_lays hts hin hk) hi).1 (g := F0 m pc ls (.null :: rest)) rfl (rest := rest) rfl (by rw [hb]; exact hdg)
  obtain ⟨t, st, q⟩ := kk (U.setVm vm') hU X1
  exact ⟨t, st1 t st, q⟩
theorem vx_putfN {D cl tys} {own ref C : String} {T : u_T} {N ci index : Nat} {Ts : List Cond} (hexec : p.tables.exec = Jvm.exec) (hb : c.code = cc) (hts : ∀ w ∈ Ts, w.before args s = true) (hin : ∀ w ∈ u_ws C T N, w ∈ Ts) (hown : s.vm.findClass own = some m.cls) (hK : va_K D cl tys s) (hc : cl[ci]? = some (C, T, N)) (k : Nat) (hk : k < N) (hlink : (Cond.fieldLink own index ref (T k).2.1 (T k).2.2.1).before args s = true) (hsame : ∀ x, s.fieldFound? (T k).1 (T k).2.1 (T k).2.2.1 = some x → s.fieldFound? ref (T k).2.1 (T k).2.2.1 = some x) (hfin : (T k).2.2.2 = false) {v : Value} (hdg : decode cc pc = .ok (.putfield index, 3)) (kk : vx_NoteN p l e R s m args below meth c H locs cells slots Q (F0 m pc ls rest)) : W p l e R s m args below meth c H locs cells slots Q (F0 m pc ls (v :: .null :: rest)) := by
  obtain ⟨hS, hfc, kC, hkC, -⟩ := hK.1 ci _ hc
  obtain ⟨cf, kf, fi, f, hi, -⟩ := hS k hk
  have hlay := hts _ (hin _ (u_in_lay hk))
  unfold u_lay at hlay
  rw [if_neg (by rw [hfin]; decide)] at hlay
  obtain ⟨c9, k9, cf9, kf9, fi9, f9, -, -, hi9, hst9, hnf9, -⟩ := Cond.lays_spec hlay
  cases hi.symm.trans hi9
  intro U hU X
  obtain ⟨vm', X1, st1⟩ := X.putfieldNull hexec hown hlink (hsame _ hi) hst9 hnf9 (g := F0 m pc ls (v :: .null :: rest)) rfl (v := v) (rest := rest) rfl (by rw [hb]; exact hdg)
  obtain ⟨t, st, q⟩ := kk (U.setVm vm') hU X1
  exact ⟨t, st1 t st, q⟩
theorem vx_putfNN {D cl tys} {own ref C host : String} {T : u_T} {N ci index : Nat} {Ts : List Cond} (hexec : p.tables.exec = Jvm.exec) (hb : c.code = cc) (hts : ∀ w ∈ Ts, w.before args s = true) (hin : ∀ w ∈ u_ws C T N, w ∈ Ts) (hown : s.vm.findClass own = some m.cls) (hK : va_K D cl tys s) (hc : cl[ci]? = some (C, T, N)) (k : Nat) (hk : k < N) (hlink : (Cond.fieldLinkNest own index ref (T k).2.1 (T k).2.2.1 host).before args s = true) (hsame : ∀ x, s.fieldFound? (T k).1 (T k).2.1 (T k).2.2.1 = some x → s.fieldFound? ref (T k).2.1 (T k).2.2.1 = some x) (hfin : (T k).2.2.2 = false) {v : Value} (hdg : decode cc pc = .ok (.putfield index, 3)) (kk : vx_NoteN p l e R s m args below meth c H locs cells slots Q (F0 m pc ls rest)) : W p l e R s m args below meth c H locs cells slots Q (F0 m pc ls (v :: .null :: rest)) := by
  obtain ⟨hS, hfc, kC, hkC, -⟩ := hK.1 ci _ hc
  obtain ⟨cf, kf, fi, f, hi, -⟩ := hS k hk
  have hlay := hts _ (hin _ (u_in_lay hk))
  unfold u_lay at hlay
  rw [if_neg (by rw [hfin]; decide)] at hlay
  obtain ⟨c9, k9, cf9, kf9, fi9, f9, -, -, hi9, hst9, hnf9, -⟩ := Cond.lays_spec hlay
  cases hi.symm.trans hi9
  intro U hU X
  obtain ⟨vm', X1, st1⟩ := X.putfieldNullNest hexec hown hlink (hsame _ hi) hst9 hnf9 (g := F0 m pc ls (v :: .null :: rest)) rfl (v := v) (rest := rest) rfl (by rw [hb]; exact hdg)
  obtain ⟨t, st, q⟩ := kk (U.setVm vm') hU X1
  exact ⟨t, st1 t st, q⟩
theorem vx_athrowN (hexec : p.tables.exec = Jvm.exec) (hb : c.code = cc) (hdg : decode cc pc = .ok (.athrow, 1)) (k : vx_NoteN p l e R s m args below meth c H locs cells slots Q (F0 m pc ls rest)) : W p l e R s m args below meth c H locs cells slots Q (F0 m pc ls (.null :: rest)) := by
  intro T hT X
  obtain ⟨t, st, q⟩ := k T hT X
  exact ⟨t, X.athrowNull hexec (g := F0 m pc ls (.null :: rest)) rfl (rest := rest) rfl (by rw [hb]; exact hdg) t st, q⟩
end VXM2
/-! ===== END ===== -/
end
section
/-! the memory model: classes and numbers instead of addresses; field by field -/
/-- a reference of the model: class and number, or null -/
abbrev mR : Type := Option (Nat × Nat)
abbrev mV : Type := Int32 ⊕ Int64 ⊕ mR
/-- how many of each class there are; the arrays' lengths; ints, longs, references: by class, field (or index), number -/
abbrev mS : Type := (Nat → Nat) × (Nat → Nat → Nat) × (Nat → Nat → Nat → Int32) × (Nat → Nat → Nat → Int64) × (Nat → Nat → Nat → mR)
/-- how a method ends: it returns, or throws one of its exceptions -/
abbrev mX : Type := Option mV ⊕ Nat
def m_up {α : Type} (f : Nat → Nat → Nat → α) (c k i : Nat) (v : α) : Nat → Nat → Nat → α := fun c' k' i' => if c' = c then (if k' = k then (if i' = i then v else f c' k' i') else f c' k' i') else f c' k' i'
def m_ci (σ : mS) (c k i : Nat) (v : Int32) : mS := (σ.1, σ.2.1, m_up σ.2.2.1 c k i v, σ.2.2.2.1, σ.2.2.2.2)
def m_cl (σ : mS) (c k i : Nat) (v : Int64) : mS := (σ.1, σ.2.1, σ.2.2.1, m_up σ.2.2.2.1 c k i v, σ.2.2.2.2)
def m_cr (σ : mS) (c k i : Nat) (v : mR) : mS := (σ.1, σ.2.1, σ.2.2.1, σ.2.2.2.1, m_up σ.2.2.2.2 c k i v)
def m_i (σ : mS) (c k i : Nat) : Int32 := σ.2.2.1 c k i
def m_l (σ : mS) (c k i : Nat) : Int64 := σ.2.2.2.1 c k i
def m_r (σ : mS) (c k i : Nat) : mR := σ.2.2.2.2 c k i
/-- one more of a class, of a length -/
def m_new (σ : mS) (c n : Nat) : mS := (fun c' => if c' = c then σ.1 c' + 1 else σ.1 c', fun c' i' => if c' = c then (if i' = σ.1 c then n else σ.2.1 c' i') else σ.2.1 c' i', σ.2.2)
/-- an instruction, its length, three numbers that the tables say of it -/
abbrev mRow : Type := Instr × Nat × Nat × Nat × Int × List Nat
def m_at : List (Nat × mRow) → Nat → Option mRow
  | [], _ => none
  | q :: t, pc => bif Nat.beq q.1 pc then some q.2 else m_at t pc
def m_ld (L : List (Option mV)) (i : Nat) : Option mV := match L[i]? with
  | some (some x) => some x
  | _ => none
def m_clr (L : List (Option mV)) (i : Nat) : List (Option mV) := match i with
  | 0 => L
  | j + 1 => match m_ld L j with
    | some (.inr (.inl _)) => L.set j none
    | _ => L
def m_sto (L : List (Option mV)) (i : Nat) (x : mV) : List (Option mV) := (m_clr L i).set i (some x)
def m_sto2 (L : List (Option mV)) (i : Nat) (x : mV) : List (Option mV) := (m_sto L i x).set (i + 1) none
def m_ldi (L : List (Option mV)) (i : Nat) (st : List mV) : Option (List mV) := match m_ld L i with
  | some (.inl x) => some (.inl x :: st)
  | _ => none
def m_ldl (L : List (Option mV)) (i : Nat) (st : List mV) : Option (List mV) := match m_ld L i with
  | some (.inr (.inl x)) => some (.inr (.inl x) :: st)
  | _ => none
def m_lda (L : List (Option mV)) (i : Nat) (st : List mV) : Option (List mV) := match m_ld L i with
  | some (.inr (.inr x)) => some (.inr (.inr x) :: st)
  | _ => none
def m_sti (L : List (Option mV)) (i : Nat) (st : List mV) : Option (List (Option mV) × List mV) := match st with
  | .inl x :: st => if i < L.length then some (m_sto L i (.inl x), st) else none
  | _ => none
def m_stl (L : List (Option mV)) (i : Nat) (st : List mV) : Option (List (Option mV) × List mV) := match st with
  | .inr (.inl x) :: st => if i + 1 < L.length then some (m_sto2 L i (.inr (.inl x)), st) else none
  | _ => none
def m_sta (L : List (Option mV)) (i : Nat) (st : List mV) : Option (List (Option mV) × List mV) := match st with
  | .inr (.inr x) :: st => if i < L.length then some (m_sto L i (.inr (.inr x)), st) else none
  | _ => none
def m_nx {α : Type} (pc : Nat) (L : α) (o : Option (List mV)) : Option (Nat × α × List mV) := match o with
  | some st => some (pc, L, st)
  | none => none
def m_ny {α : Type} (pc : Nat) (o : Option (α × List mV)) : Option (Nat × α × List mV) := match o with
  | some q => some (pc, q.1, q.2)
  | none => none
def m_b32 (f : Int32 → Int32 → Int32) (st : List mV) : Option (List mV) := match st with
  | .inl y :: .inl x :: st => some (.inl (f x y) :: st)
  | _ => none
def m_b64 (f : Int64 → Int64 → Int64) (st : List mV) : Option (List mV) := match st with
  | .inr (.inl y) :: .inr (.inl x) :: st => some (.inr (.inl (f x y)) :: st)
  | _ => none
/-- what takes neither the heap nor a branch -/
def m_pure (r : mRow) (pc : Nat) (L : List (Option mV)) (st : List mV) : Option (Nat × List (Option mV) × List mV) :=
  match r.1 with
  | .aconst_null => some (pc + 1, L, .inr (.inr none) :: st)
  | .iconst n => some (pc + 1, L, .inl (Int32.ofInt n) :: st)
  | .bipush n => some (pc + 2, L, .inl (Int8.ofInt n).toInt32 :: st)
  | .sipush n => some (pc + 3, L, .inl (Int16.ofInt n).toInt32 :: st)
  | .lconst n => some (pc + 1, L, .inr (.inl (Int64.ofNat (n : Nat))) :: st)
  | .ldc _ => if r.2.2.1 = 1 then none else some (pc + 2, L, .inl (Int32.ofInt r.2.2.2.2.1) :: st)
  | .ldc_w _ => if r.2.2.1 = 1 then none else some (pc + 3, L, .inl (Int32.ofInt r.2.2.2.2.1) :: st)
  | .ldc2_w _ => some (pc + 3, L, .inr (.inl (Int64.ofInt r.2.2.2.2.1)) :: st)
  | .iload i => m_nx (pc + 2) L (m_ldi L i st)
  | .iload_n i => m_nx (pc + 1) L (m_ldi L i st)
  | .lload i => m_nx (pc + 2) L (m_ldl L i st)
  | .lload_n i => m_nx (pc + 1) L (m_ldl L i st)
  | .aload i => m_nx (pc + 2) L (m_lda L i st)
  | .aload_n i => m_nx (pc + 1) L (m_lda L i st)
  | .istore i => m_ny (pc + 2) (m_sti L i st)
  | .istore_n i => m_ny (pc + 1) (m_sti L i st)
  | .lstore i => m_ny (pc + 2) (m_stl L i st)
  | .lstore_n i => m_ny (pc + 1) (m_stl L i st)
  | .astore i => m_ny (pc + 2) (m_sta L i st)
  | .astore_n i => m_ny (pc + 1) (m_sta L i st)
  | .iinc i n => match m_ld L i with
    | some (.inl x) => if i < L.length then some (pc + 3, m_sto L i (.inl (x + Int32.ofInt n)), st) else none
    | _ => none
  | .iadd => m_nx (pc + 1) L (m_b32 (fun x y => x + y) st)
  | .isub => m_nx (pc + 1) L (m_b32 (fun x y => x - y) st)
  | .imul => m_nx (pc + 1) L (m_b32 (fun x y => x * y) st)
  | .iand => m_nx (pc + 1) L (m_b32 (fun x y => x &&& y) st)
  | .ixor => m_nx (pc + 1) L (m_b32 (fun x y => x ^^^ y) st)
  | .idiv => match st with
    | .inl y :: .inl x :: st => if y = 0 then none else some (pc + 1, L, .inl (x / y) :: st)
    | _ => none
  | .irem => match st with
    | .inl y :: .inl x :: st => if y = 0 then none else some (pc + 1, L, .inl (x - x / y * y) :: st)
    | _ => none
  | .ineg => match st with
    | .inl x :: st => some (pc + 1, L, .inl (-x) :: st)
    | _ => none
  | .ladd => m_nx (pc + 1) L (m_b64 (fun x y => x + y) st)
  | .lsub => m_nx (pc + 1) L (m_b64 (fun x y => x - y) st)
  | .lmul => m_nx (pc + 1) L (m_b64 (fun x y => x * y) st)
  | .ldiv => match st with
    | .inr (.inl y) :: .inr (.inl x) :: st => if y = 0 then none else some (pc + 1, L, .inr (.inl (x / y)) :: st)
    | _ => none
  | .lrem => match st with
    | .inr (.inl y) :: .inr (.inl x) :: st => if y = 0 then none else some (pc + 1, L, .inr (.inl (x - x / y * y)) :: st)
    | _ => none
  | .lneg => match st with
    | .inr (.inl x) :: st => some (pc + 1, L, .inr (.inl (-x)) :: st)
    | _ => none
  | .lcmp => match st with
    | .inr (.inl y) :: .inr (.inl x) :: st => some (pc + 1, L, .inl (lg_cmp x y) :: st)
    | _ => none
  | .i2l => match st with
    | .inl x :: st => some (pc + 1, L, .inr (.inl x.toInt64) :: st)
    | _ => none
  | .l2i => match st with
    | .inr (.inl x) :: st => some (pc + 1, L, .inl x.toInt32 :: st)
    | _ => none
  | .dup => match st with
    | .inl x :: st => some (pc + 1, L, .inl x :: .inl x :: st)
    | .inr (.inr x) :: st => some (pc + 1, L, .inr (.inr x) :: .inr (.inr x) :: st)
    | _ => none
  | .dup2 => match st with
    | .inr (.inl x) :: st => some (pc + 1, L, .inr (.inl x) :: .inr (.inl x) :: st)
    | .inl y :: .inr (.inr x) :: st => some (pc + 1, L, .inl y :: .inr (.inr x) :: .inl y :: .inr (.inr x) :: st)
    | _ => none
  | .pop => match st with
    | .inl _ :: st => some (pc + 1, L, st)
    | .inr (.inr _) :: st => some (pc + 1, L, st)
    | _ => none
  | .pop2 => match st with
    | .inr (.inl _) :: st => some (pc + 1, L, st)
    | _ => none
  | .goto _ => some (r.2.2.1, L, st)
  | .tableswitch dflt lo hi offs => match st with
    | .inl x :: st => if x.toInt < lo ∨ hi < x.toInt then some (((pc : Int) + dflt).toNat, L, st) else match offs[(x.toInt - lo).toNat]? with
      | some o => some (((pc : Int) + o).toNat, L, st)
      | none => none
    | _ => none
  | _ => none
def m_ic (c : ClassFile.Cond) (x y : Int32) : Prop := match c with
  | .eq => x = y
  | .ne => ¬ x = y
  | .lt => x < y
  | .ge => y ≤ x
  | .gt => y < x
  | .le => x ≤ y
def m_cond (r : mRow) (st : List mV) : Option (Prop × List mV) :=
  match r.1 with
  | .ifCond c _ => match st with
    | .inl x :: st => some (m_ic c x 0, st)
    | _ => none
  | .if_icmp c _ => match st with
    | .inl y :: .inl x :: st => some (m_ic c x y, st)
    | _ => none
  | .if_acmp c _ => match st with
    | .inr (.inr y) :: .inr (.inr x) :: st => match c with
      | .eq => some (x = y, st)
      | .ne => some (¬ x = y, st)
    | _ => none
  | .ifnull _ => match st with
    | .inr (.inr x) :: st => some (x = none, st)
    | _ => none
  | .ifnonnull _ => match st with
    | .inr (.inr x) :: st => some (¬ x = none, st)
    | _ => none
  | _ => none
end
section
/-! the model's values beside the machine's; the instructions without heap, call or branch -/
def m_vr (ρ : Nat → Nat → Option Nat) (x : mV) (w : Value) : Prop := match x with
  | .inl a => w = .int a
  | .inr (.inl a) => w = .long a
  | .inr (.inr none) => w = .null
  | .inr (.inr (some q)) => ∃ a, ρ q.1 q.2 = some a ∧ w = .ref a
def m_sr (ρ : Nat → Nat → Option Nat) : List mV → List Value → Prop
  | [], [] => True
  | x :: xs, w :: ws => m_vr ρ x w ∧ m_sr ρ xs ws
  | _, _ => False
def m_lr (ρ : Nat → Nat → Option Nat) (ls : Array Slot) (L : List (Option mV)) : Prop := ls.size = L.length ∧ lv_wf ls ∧ ∀ (i : Nat) (x : mV), m_ld L i = some x → ∃ w, ls[i]? = some (.val w) ∧ m_vr ρ x w
def m_le (ρ ρ' : Nat → Nat → Option Nat) : Prop := ∀ c i a, ρ c i = some a → ρ' c i = some a
theorem m_le.rf {ρ : Nat → Nat → Option Nat} : m_le ρ ρ := fun _ _ _ h => h
theorem m_le.tr {ρ ρ' ρ'' : Nat → Nat → Option Nat} (h : m_le ρ ρ') (h' : m_le ρ' ρ'') : m_le ρ ρ'' := fun c i a z => h' c i a (h c i a z)
theorem m_vr.le {ρ ρ' : Nat → Nat → Option Nat} (h : m_le ρ ρ') {x : mV} {w : Value} (hx : m_vr ρ x w) : m_vr ρ' x w := by
  rcases x with a | a | _ | q
  · exact hx
  · exact hx
  · exact hx
  · obtain ⟨a, h1, h2⟩ := hx
    exact ⟨a, h _ _ _ h1, h2⟩
theorem m_sr.le {ρ ρ' : Nat → Nat → Option Nat} (h : m_le ρ ρ') : ∀ {st : List mV} {sw : List Value}, m_sr ρ st sw → m_sr ρ' st sw
  | [], [], _ => trivial
  | _ :: _, _ :: _, ⟨h1, h2⟩ => ⟨h1.le h, m_sr.le h h2⟩
theorem m_lr.le {ρ ρ' : Nat → Nat → Option Nat} (h : m_le ρ ρ') {ls : Array Slot} {L : List (Option mV)} (hL : m_lr ρ ls L) : m_lr ρ' ls L :=
  ⟨hL.1, hL.2.1, fun i x hx => by obtain ⟨w, h1, h2⟩ := hL.2.2 i x hx; exact ⟨w, h1, h2.le h⟩⟩
theorem m_sr_i {ρ : Nat → Nat → Option Nat} {x : Int32} {st : List mV} {sw : List Value} (h : m_sr ρ (.inl x :: st) sw) : ∃ s', sw = .int x :: s' ∧ m_sr ρ st s' := by
  cases sw with
  | nil => exact h.elim
  | cons w s' =>
    obtain ⟨h1, h2⟩ := h
    cases (show w = .int x from h1)
    exact ⟨s', rfl, h2⟩
theorem m_sr_l {ρ : Nat → Nat → Option Nat} {x : Int64} {st : List mV} {sw : List Value} (h : m_sr ρ (.inr (.inl x) :: st) sw) : ∃ s', sw = .long x :: s' ∧ m_sr ρ st s' := by
  cases sw with
  | nil => exact h.elim
  | cons w s' =>
    obtain ⟨h1, h2⟩ := h
    cases (show w = .long x from h1)
    exact ⟨s', rfl, h2⟩
/-- a reference of the model is null or lies somewhere -/
def m_rr (ρ : Nat → Nat → Option Nat) (x : mR) (r : Option Nat) : Prop := match x, r with
  | none, none => True
  | some q, some a => ρ q.1 q.2 = some a
  | _, _ => False
theorem m_vr_r {ρ : Nat → Nat → Option Nat} {x : mR} {w : Value} (h : m_vr ρ (.inr (.inr x)) w) : ∃ r, w = va_rf r ∧ m_rr ρ x r := by
  cases x with
  | none => exact ⟨none, h, trivial⟩
  | some q =>
    obtain ⟨a, h1, h2⟩ := h
    exact ⟨some a, h2, h1⟩
theorem m_rr_v {ρ : Nat → Nat → Option Nat} {x : mR} {r : Option Nat} (h : m_rr ρ x r) : m_vr ρ (.inr (.inr x)) (va_rf r) := by
  cases x with
  | none => cases r with
    | none => rfl
    | some a => exact h.elim
  | some q => cases r with
    | none => exact h.elim
    | some a => exact ⟨a, h, rfl⟩
theorem m_sr_r {ρ : Nat → Nat → Option Nat} {x : mR} {st : List mV} {sw : List Value} (h : m_sr ρ (.inr (.inr x) :: st) sw) : ∃ r s', sw = va_rf r :: s' ∧ m_rr ρ x r ∧ m_sr ρ st s' := by
  cases sw with
  | nil => exact h.elim
  | cons w s' =>
    obtain ⟨h1, h2⟩ := h
    obtain ⟨r, e, hr⟩ := m_vr_r h1
    exact ⟨r, s', by rw [e], hr, h2⟩
theorem m_cat_rf (r : Option Nat) : (va_rf r).category = 1 := by cases r <;> rfl
/-- all that the locals hold -/
def m_all (ls : Array Slot) : List (Nat × Value) := (List.range ls.size).filterMap (fun (i : Nat) => match (ls[i]? : Option Slot) with
  | some (Slot.val v) => some (i, v)
  | _ => none)
theorem m_all_mem {ls : Array Slot} {i : Nat} {v : Value} : (i, v) ∈ m_all ls ↔ ls[i]? = some (.val v) := by
  unfold m_all
  rw [List.mem_filterMap]
  constructor
  · rintro ⟨j, -, h⟩
    cases hj : ls[j]? with
    | none => rw [hj] at h; cases h
    | some z =>
      rw [hj] at h
      cases z with
      | val w => cases h; exact hj
      | unset => cases h
      | second => cases h
  · intro h
    refine ⟨i, List.mem_range.mpr (Array.getElem?_eq_some_iff.mp h).1, ?_⟩
    rw [h]
theorem m_all_has {ρ : Nat → Nat → Option Nat} {ls : Array Slot} {L : List (Option mV)} (h : m_lr ρ ls L) : lv_has ls L.length (m_all ls) :=
  ⟨h.1, h.2.1, fun q hq => m_all_mem.mp (show (q.1, q.2) ∈ m_all ls from hq)⟩
theorem m_ld_set {L : List (Option mV)} {i j : Nat} {o : Option mV} {x : mV} (h : m_ld (L.set i o) j = some x) : (j = i ∧ o = some x) ∨ (j ≠ i ∧ m_ld L j = some x) := by
  unfold m_ld at h ⊢
  by_cases e : j = i
  · subst e
    rw [List.getElem?_set] at h
    simp only [if_true] at h
    by_cases hl : j < L.length
    · rw [if_pos hl] at h
      cases o with
      | none => cases h
      | some y => cases h; exact Or.inl ⟨rfl, rfl⟩
    · rw [if_neg hl] at h
      cases h
  · rw [List.getElem?_set_ne (Ne.symm e)] at h
    exact Or.inr ⟨e, h⟩
theorem m_ld_clr {L : List (Option mV)} {i j : Nat} {x : mV} (h : m_ld (m_clr L i) j = some x) : m_ld L j = some x ∧ ¬ (j + 1 = i ∧ ∃ y, x = .inr (.inl y)) := by
  cases i with
  | zero => exact ⟨h, fun q => by omega⟩
  | succ k =>
    unfold m_clr at h
    simp only at h
    cases hk : m_ld L k with
    | none =>
      rw [hk] at h
      refine ⟨h, ?_⟩
      rintro ⟨e, y, rfl⟩
      have : j = k := by omega
      subst this
      have h' : m_ld L j = some (.inr (.inl y)) := h
      rw [hk] at h'
      cases h'
    | some z =>
      rw [hk] at h
      rcases z with a | a | a
      · refine ⟨h, ?_⟩
        rintro ⟨e, y, rfl⟩
        have : j = k := by omega
        subst this
        have h' : m_ld L j = some (.inr (.inl y)) := h
        rw [hk] at h'
        cases h'
      · have h' : m_ld (L.set k none) j = some x := h
        rcases m_ld_set h' with ⟨-, e⟩ | ⟨e1, e2⟩
        · cases e
        · exact ⟨e2, fun q => e1 (by omega)⟩
      · refine ⟨h, ?_⟩
        rintro ⟨e, y, rfl⟩
        have : j = k := by omega
        subst this
        have h' : m_ld L j = some (.inr (.inl y)) := h
        rw [hk] at h'
        cases h'
theorem m_clr_len (L : List (Option mV)) (i : Nat) : (m_clr L i).length = L.length := by
  cases i with
  | zero => rfl
  | succ k =>
    unfold m_clr
    simp only
    cases m_ld L k with
    | none => rfl
    | some z =>
      rcases z with a | a | a
      · rfl
      · exact List.length_set ..
      · rfl
theorem m_sto_len (L : List (Option mV)) (i : Nat) (x : mV) : (m_sto L i x).length = L.length := by
  unfold m_sto
  rw [List.length_set, m_clr_len]
theorem m_sto2_len (L : List (Option mV)) (i : Nat) (x : mV) : (m_sto2 L i x).length = L.length := by
  unfold m_sto2
  rw [List.length_set, m_sto_len]
theorem m_vr_cat {ρ : Nat → Nat → Option Nat} {x : mV} {w : Value} (h : m_vr ρ x w) (hc : w.category = 2) : ∃ y, x = .inr (.inl y) := by
  rcases x with a | a | _ | q
  · cases (show w = .int a from h); cases hc
  · exact ⟨a, rfl⟩
  · cases (show w = .null from h); cases hc
  · obtain ⟨a, -, h2⟩ := h
    cases h2; cases hc
theorem m_sto_ok {ρ : Nat → Nat → Option Nat} {ls ls' : Array Slot} {L : List (Option mV)} {i : Nat} {x : mV} {w : Value} (h : m_lr ρ ls L) (hx : m_vr ρ x w)
    (h' : lv_has ls' L.length ((i, w) :: (m_all ls).filter (fun q => !(q.1 == i) && !(q.1 + 1 == i && q.2.category == 2)))) : m_lr ρ ls' (m_sto L i x) := by
  obtain ⟨s1, s2, s3⟩ := h'
  refine ⟨by rw [m_sto_len]; exact s1, s2, fun j y hy => ?_⟩
  unfold m_sto at hy
  rcases m_ld_set hy with ⟨e1, e2⟩ | ⟨e1, e2⟩
  · cases e2
    subst e1
    exact ⟨w, s3 (j, w) List.mem_cons_self, hx⟩
  · obtain ⟨e3, e4⟩ := m_ld_clr e2
    obtain ⟨w', g1, g2⟩ := h.2.2 j y e3
    refine ⟨w', s3 (j, w') (List.mem_cons_of_mem _ (List.mem_filter.mpr ⟨m_all_mem.mpr g1, ?_⟩)), g2⟩
    simp only [Bool.and_eq_true, Bool.not_eq_true', beq_eq_false_iff_ne, ne_eq, Bool.and_eq_false_iff]
    refine ⟨e1, ?_⟩
    by_cases z : j + 1 = i
    · exact Or.inr (fun q => e4 ⟨z, m_vr_cat g2 q⟩)
    · exact Or.inl z
theorem m_sto2_ok {ρ : Nat → Nat → Option Nat} {ls ls' : Array Slot} {L : List (Option mV)} {i : Nat} {x : mV} {w : Value} (h : m_lr ρ ls L) (hx : m_vr ρ x w)
    (h' : lv_has ls' L.length ((i, w) :: (m_all ls).filter (fun q => !(q.1 == i) && (!(q.1 == i + 1) && !(q.1 + 1 == i && q.2.category == 2))))) : m_lr ρ ls' (m_sto2 L i x) := by
  obtain ⟨s1, s2, s3⟩ := h'
  refine ⟨by rw [m_sto2_len]; exact s1, s2, fun j y hy => ?_⟩
  unfold m_sto2 m_sto at hy
  rcases m_ld_set hy with ⟨-, e2⟩ | ⟨e0, hy⟩
  · cases e2
  rcases m_ld_set hy with ⟨e1, e2⟩ | ⟨e1, e2⟩
  · cases e2
    subst e1
    exact ⟨w, s3 (j, w) List.mem_cons_self, hx⟩
  · obtain ⟨e3, e4⟩ := m_ld_clr e2
    obtain ⟨w', g1, g2⟩ := h.2.2 j y e3
    refine ⟨w', s3 (j, w') (List.mem_cons_of_mem _ (List.mem_filter.mpr ⟨m_all_mem.mpr g1, ?_⟩)), g2⟩
    simp only [Bool.and_eq_true, Bool.not_eq_true', beq_eq_false_iff_ne, ne_eq, Bool.and_eq_false_iff]
    refine ⟨e1, e0, ?_⟩
    by_cases z : j + 1 = i
    · exact Or.inr (fun q => e4 ⟨z, m_vr_cat g2 q⟩)
    · exact Or.inl z
theorem m_ldi_ok {ρ : Nat → Nat → Option Nat} {ls : Array Slot} {L : List (Option mV)} {i : Nat} {st st' : List mV} (h : m_lr ρ ls L) (hi : m_ldi L i st = some st') : ∃ x, ls[i]? = some (.val (.int x)) ∧ st' = .inl x :: st := by
  unfold m_ldi at hi
  cases hk : m_ld L i with
  | none => rw [hk] at hi; cases hi
  | some z =>
    rw [hk] at hi
    rcases z with a | a | a
    · cases hi
      obtain ⟨w, h1, h2⟩ := h.2.2 _ _ hk
      cases (show w = .int a from h2)
      exact ⟨a, h1, rfl⟩
    · cases hi
    · cases hi
theorem m_ldl_ok {ρ : Nat → Nat → Option Nat} {ls : Array Slot} {L : List (Option mV)} {i : Nat} {st st' : List mV} (h : m_lr ρ ls L) (hi : m_ldl L i st = some st') : ∃ x, ls[i]? = some (.val (.long x)) ∧ st' = .inr (.inl x) :: st := by
  unfold m_ldl at hi
  cases hk : m_ld L i with
  | none => rw [hk] at hi; cases hi
  | some z =>
    rw [hk] at hi
    rcases z with a | a | a
    · cases hi
    · cases hi
      obtain ⟨w, h1, h2⟩ := h.2.2 _ _ hk
      cases (show w = .long a from h2)
      exact ⟨a, h1, rfl⟩
    · cases hi
theorem m_lda_ok {ρ : Nat → Nat → Option Nat} {ls : Array Slot} {L : List (Option mV)} {i : Nat} {st st' : List mV} (h : m_lr ρ ls L) (hi : m_lda L i st = some st') : ∃ x r, ls[i]? = some (.val (va_rf r)) ∧ m_rr ρ x r ∧ st' = .inr (.inr x) :: st := by
  unfold m_lda at hi
  cases hk : m_ld L i with
  | none => rw [hk] at hi; cases hi
  | some z =>
    rw [hk] at hi
    rcases z with a | a | a
    · cases hi
    · cases hi
    · cases hi
      obtain ⟨w, h1, h2⟩ := h.2.2 _ _ hk
      obtain ⟨r, rfl, hr⟩ := m_vr_r h2
      exact ⟨a, r, h1, hr, rfl⟩
theorem m_sti_ok {L L' : List (Option mV)} {i : Nat} {st st' : List mV} (hi : m_sti L i st = some (L', st')) : ∃ x, st = .inl x :: st' ∧ L' = m_sto L i (.inl x) ∧ i < L.length := by
  unfold m_sti at hi
  split at hi
  · split at hi
    · cases hi
      exact ⟨_, rfl, rfl, by assumption⟩
    · cases hi
  · cases hi
theorem m_stl_ok {L L' : List (Option mV)} {i : Nat} {st st' : List mV} (hi : m_stl L i st = some (L', st')) : ∃ x, st = .inr (.inl x) :: st' ∧ L' = m_sto2 L i (.inr (.inl x)) ∧ i + 1 < L.length := by
  unfold m_stl at hi
  split at hi
  · split at hi
    · cases hi
      exact ⟨_, rfl, rfl, by assumption⟩
    · cases hi
  · cases hi
theorem m_sta_ok {L L' : List (Option mV)} {i : Nat} {st st' : List mV} (hi : m_sta L i st = some (L', st')) : ∃ x, st = .inr (.inr x) :: st' ∧ L' = m_sto L i (.inr (.inr x)) ∧ i < L.length := by
  unfold m_sta at hi
  split at hi
  · split at hi
    · cases hi
      exact ⟨_, rfl, rfl, by assumption⟩
    · cases hi
  · cases hi
theorem m_nx_ok {α : Type} {pc pc' : Nat} {L L' : α} {o : Option (List mV)} {st' : List mV} (h : m_nx pc L o = some (pc', L', st')) : pc' = pc ∧ L' = L ∧ o = some st' := by
  unfold m_nx at h
  cases o with
  | none => cases h
  | some z => cases h; exact ⟨rfl, rfl, rfl⟩
theorem m_ny_ok {α : Type} {pc pc' : Nat} {L' : α} {o : Option (α × List mV)} {st' : List mV} (h : m_ny pc o = some (pc', L', st')) : pc' = pc ∧ o = some (L', st') := by
  unfold m_ny at h
  cases o with
  | none => cases h
  | some z => cases h; exact ⟨rfl, rfl⟩
end
section
/-! the judgement: from every machine state beside (L, st, σ) at pc the machine comes to Qt; the instructions without heap, call or branch -/
theorem m_b32_ok {f : Int32 → Int32 → Int32} {st st' : List mV} (h : m_b32 f st = some st') : ∃ x y s0, st = .inl y :: .inl x :: s0 ∧ st' = .inl (f x y) :: s0 := by
  unfold m_b32 at h
  split at h
  · cases h; exact ⟨_, _, _, rfl, rfl⟩
  · cases h
theorem m_b64_ok {f : Int64 → Int64 → Int64} {st st' : List mV} (h : m_b64 f st = some st') : ∃ x y s0, st = .inr (.inl y) :: .inr (.inl x) :: s0 ∧ st' = .inr (.inl (f x y)) :: s0 := by
  unfold m_b64 at h
  split at h
  · cases h; exact ⟨_, _, _, rfl, rfl⟩
  · cases h
/-- an instruction's length -/
def m_len (r : mRow) : Nat := match r.1 with
  | .bipush _ => 2
  | .ldc _ => 2
  | .iload _ => 2
  | .lload _ => 2
  | .aload _ => 2
  | .istore _ => 2
  | .lstore _ => 2
  | .astore _ => 2
  | .newarray _ => 2
  | .sipush _ => 3
  | .ldc_w _ => 3
  | .ldc2_w _ => 3
  | .iinc _ _ => 3
  | .ifCond _ _ => 3
  | .if_icmp _ _ => 3
  | .if_acmp _ _ => 3
  | .ifnull _ => 3
  | .ifnonnull _ => 3
  | .goto _ => 3
  | .getfield _ => 3
  | .putfield _ => 3
  | .invokevirtual _ => 3
  | .invokespecial _ => 3
  | .invokestatic _ => 3
  | .new _ => 3
  | .anewarray _ => 3
  | .multianewarray _ _ => 4
  | .tableswitch _ _ _ _ => r.2.1
  | _ => 1
/-- what a row owes to the tables, without heap and calls -/
def m_rowP (own : String) (s : State) (args : Array Value) (pc : Nat) (r : mRow) : Prop := match r.1 with
  | .goto o => (pc : Int) + o = (r.2.2.1 : Int)
  | .ifCond _ o => (pc : Int) + o = (r.2.2.1 : Int)
  | .if_icmp _ o => (pc : Int) + o = (r.2.2.1 : Int)
  | .if_acmp _ o => (pc : Int) + o = (r.2.2.1 : Int)
  | .ifnull o => (pc : Int) + o = (r.2.2.1 : Int)
  | .ifnonnull o => (pc : Int) + o = (r.2.2.1 : Int)
  | .tableswitch d _ _ offs => 0 ≤ (pc : Int) + d ∧ ∀ o ∈ offs.toList, 0 ≤ (pc : Int) + o
  | .ldc i => r.2.2.1 = 1 ∨ (Cond.constant own i (Int32.ofInt r.2.2.2.2.1)).before args s = true
  | .ldc_w i => r.2.2.1 = 1 ∨ (Cond.constant own i (Int32.ofInt r.2.2.2.2.1)).before args s = true
  | .ldc2_w i => (Cond.constantLong own i (Int64.ofInt r.2.2.2.2.1)).before args s = true
  | _ => True
theorem m_rr_n {ρ : Nat → Nat → Option Nat} {x : mR} : m_rr ρ x none ↔ x = none := by
  cases x with
  | none => exact ⟨fun _ => rfl, fun _ => trivial⟩
  | some q => exact ⟨fun h => h.elim, fun h => by cases h⟩
theorem m_rr_eq {ρ : Nat → Nat → Option Nat} (hi : ∀ c i c' i' a, ρ c i = some a → ρ c' i' = some a → c = c' ∧ i = i') {x y : mR} {rx ry : Option Nat} (hx : m_rr ρ x rx) (hy : m_rr ρ y ry) : rx = ry ↔ x = y := by
  cases x with
  | none =>
    cases rx with
    | some a => exact hx.elim
    | none =>
      cases y with
      | none =>
        cases ry with
        | none => exact ⟨fun _ => rfl, fun _ => rfl⟩
        | some a => exact hy.elim
      | some q =>
        cases ry with
        | none => exact hy.elim
        | some a => exact ⟨(fun h => by cases h), (fun h => by cases h)⟩
  | some q =>
    cases rx with
    | none => exact hx.elim
    | some a =>
      cases y with
      | none =>
        cases ry with
        | none => exact ⟨(fun h => by cases h), (fun h => by cases h)⟩
        | some b => exact hy.elim
      | some q' =>
        cases ry with
        | none => exact hy.elim
        | some b =>
          have ha : ρ q.1 q.2 = some a := hx
          have hb : ρ q'.1 q'.2 = some b := hy
          constructor
          · intro h
            cases h
            obtain ⟨e1, e2⟩ := hi _ _ _ _ _ ha hb
            exact congrArg some (Prod.ext e1 e2)
          · intro h
            cases h
            exact ha.symm.trans hb
/-- a machine's value of a field or a cell of an array, by the model -/
def m_tt (d : FieldType) : Nat := match d with
  | .int => 0
  | .long => 1
  | .boolean => 3
  | _ => 2
section MJ
variable {p : Program} {l : Launch} {e : Env} {R : Room} {s : State} {m : MethodId} {args : Array Value} {below : List Frame} {meth : Method} {cd : Code} {Qt : State → Prop} {A : Nat → Prop} {ρ0 : Nat → Nat → Option Nat} {X : (Nat → Nat → Option Nat) → mS → Heap → Prop} {cc : ByteArray} {own : String}
/-- X says how the model's heap lies in the machine's -/
def m_J (p : Program) (l : Launch) (e : Env) (R : Room) (s : State) (m : MethodId) (args : Array Value) (below : List Frame) (meth : Method) (cd : Code) (Qt : State → Prop) (A : Nat → Prop) (ρ0 : Nat → Nat → Option Nat) (X : (Nat → Nat → Option Nat) → mS → Heap → Prop)
    (pc : Nat) (L : List (Option mV)) (st : List mV) (σ : mS) (k n : Nat) : Prop :=
  ∀ (ρ : Nat → Nat → Option Nat) (H : Heap) (locs : List Loc) (ls : Array Slot) (sw : List Value), m_le ρ0 ρ → X ρ σ H → (∀ c i a, c ≠ 98 → ρ c i = some a → A a) → va_S A s.heap H locs → m_lr ρ ls L → m_sr ρ st sw →
    W p l e R s m args below meth cd H locs k n Qt (F0 m pc ls sw)
set_option maxHeartbeats 4000000 in
theorem m_j_pure (hx : p.tables.exec = Jvm.exec) (hb : cd.code = cc) (hown : s.vm.findClass own = some m.cls) {r : mRow} {pc pc' k n : Nat} {L L' : List (Option mV)} {st st' : List mV} {σ : mS} (hd : decode cc pc = .ok (r.1, m_len r)) (hr : m_rowP own s args pc r) (hm : m_pure r pc L st = some (pc', L', st')) (K : m_J p l e R s m args below meth cd Qt A ρ0 X pc' L' st' σ k n) : m_J p l e R s m args below meth cd Qt A ρ0 X pc L st σ k n := by
  obtain ⟨ig, ln, ra, rb, rz⟩ := r
  intro ρ H locs ls sw h1 h2 h3 h4 h5 h6
  unfold m_pure at hm
  simp only at hm
  split at hm
  · -- aconst_null
    cases hm
    exact lv_null hx hb hd (K ρ H locs ls _ h1 h2 h3 h4 h5 ⟨rfl, h6⟩)
  · -- iconst
    cases hm
    exact lv_iconst hx hb hd rfl (K ρ H locs ls _ h1 h2 h3 h4 h5 ⟨rfl, h6⟩)
  · -- bipush
    cases hm
    exact lv_bipush hx hb hd rfl (K ρ H locs ls _ h1 h2 h3 h4 h5 ⟨rfl, h6⟩)
  · -- sipush
    cases hm
    exact lv_sipush hx hb hd rfl (K ρ H locs ls _ h1 h2 h3 h4 h5 ⟨rfl, h6⟩)
  · -- lconst
    cases hm
    exact lv_lconst hx hb hd rfl (K ρ H locs ls _ h1 h2 h3 h4 h5 ⟨rfl, h6⟩)
  · -- ldc
    split at hm
    · cases hm
    · rename_i hne
      cases hm
      rcases hr with hr | hr
      · exact absurd hr hne
      · exact lv_ldc hx hb hown hr hd (K ρ H locs ls _ h1 h2 h3 h4 h5 ⟨rfl, h6⟩)
  · -- ldc_w
    split at hm
    · cases hm
    · rename_i hne
      cases hm
      rcases hr with hr | hr
      · exact absurd hr hne
      · exact lv_ldcw hx hb hown hr hd (K ρ H locs ls _ h1 h2 h3 h4 h5 ⟨rfl, h6⟩)
  · -- ldc2_w
    cases hm
    exact lv_ldc2 hx hb hown hr hd (K ρ H locs ls _ h1 h2 h3 h4 h5 ⟨rfl, h6⟩)
  · -- iload
    obtain ⟨rfl, rfl, hm2⟩ := m_nx_ok hm
    obtain ⟨x, hl, rfl⟩ := m_ldi_ok h5 hm2
    exact lv_iload hx hb hd hl (K ρ H locs ls _ h1 h2 h3 h4 h5 ⟨rfl, h6⟩)
  · -- iload_n
    obtain ⟨rfl, rfl, hm2⟩ := m_nx_ok hm
    obtain ⟨x, hl, rfl⟩ := m_ldi_ok h5 hm2
    exact lv_iload_n hx hb hd rfl hl (K ρ H locs ls _ h1 h2 h3 h4 h5 ⟨rfl, h6⟩)
  · -- lload
    obtain ⟨rfl, rfl, hm2⟩ := m_nx_ok hm
    obtain ⟨x, hl, rfl⟩ := m_ldl_ok h5 hm2
    exact lv_lload hx hb hd hl (K ρ H locs ls _ h1 h2 h3 h4 h5 ⟨rfl, h6⟩)
  · -- lload_n
    obtain ⟨rfl, rfl, hm2⟩ := m_nx_ok hm
    obtain ⟨x, hl, rfl⟩ := m_ldl_ok h5 hm2
    exact lv_lload_n hx hb hd rfl hl (K ρ H locs ls _ h1 h2 h3 h4 h5 ⟨rfl, h6⟩)
  · -- aload
    obtain ⟨rfl, rfl, hm2⟩ := m_nx_ok hm
    obtain ⟨x, r, hl, hr, rfl⟩ := m_lda_ok h5 hm2
    have K2 := K ρ H locs ls _ h1 h2 h3 h4 h5 (show m_sr ρ _ (va_rf r :: sw) from ⟨m_rr_v hr, h6⟩)
    cases r with
    | none => exact lv_aloadN hx hb hd hl K2
    | some a => exact lv_aload hx hb hd hl K2
  · -- aload_n
    obtain ⟨rfl, rfl, hm2⟩ := m_nx_ok hm
    obtain ⟨x, r, hl, hr, rfl⟩ := m_lda_ok h5 hm2
    have K2 := K ρ H locs ls _ h1 h2 h3 h4 h5 (show m_sr ρ _ (va_rf r :: sw) from ⟨m_rr_v hr, h6⟩)
    cases r with
    | none => exact lv_aload_nN hx hb hd rfl hl K2
    | some a => exact lv_aload_n hx hb hd rfl hl K2
  · -- istore
    obtain ⟨rfl, hm2⟩ := m_ny_ok hm
    obtain ⟨x, rfl, rfl, hi⟩ := m_sti_ok hm2
    obtain ⟨s', rfl, h7⟩ := m_sr_i h6
    exact lv_istore hx hb hd (m_all_has h5) hi rfl (fun ls' hl => K ρ H locs ls' _ h1 h2 h3 h4 (m_sto_ok h5 (x := .inl x) rfl hl) h7)
  · -- istore_n
    obtain ⟨rfl, hm2⟩ := m_ny_ok hm
    obtain ⟨x, rfl, rfl, hi⟩ := m_sti_ok hm2
    obtain ⟨s', rfl, h7⟩ := m_sr_i h6
    exact lv_istore_n hx hb hd rfl (m_all_has h5) hi rfl (fun ls' hl => K ρ H locs ls' _ h1 h2 h3 h4 (m_sto_ok h5 (x := .inl x) rfl hl) h7)
  · -- lstore
    obtain ⟨rfl, hm2⟩ := m_ny_ok hm
    obtain ⟨x, rfl, rfl, hi⟩ := m_stl_ok hm2
    obtain ⟨s', rfl, h7⟩ := m_sr_l h6
    exact lv_lstore hx hb hd (m_all_has h5) hi rfl (fun ls' hl => K ρ H locs ls' _ h1 h2 h3 h4 (m_sto2_ok h5 (x := .inr (.inl x)) rfl hl) h7)
  · -- lstore_n
    obtain ⟨rfl, hm2⟩ := m_ny_ok hm
    obtain ⟨x, rfl, rfl, hi⟩ := m_stl_ok hm2
    obtain ⟨s', rfl, h7⟩ := m_sr_l h6
    exact lv_lstore_n hx hb hd rfl (m_all_has h5) hi rfl (fun ls' hl => K ρ H locs ls' _ h1 h2 h3 h4 (m_sto2_ok h5 (x := .inr (.inl x)) rfl hl) h7)
  · -- astore
    obtain ⟨rfl, hm2⟩ := m_ny_ok hm
    obtain ⟨x, rfl, rfl, hi⟩ := m_sta_ok hm2
    obtain ⟨r, s', rfl, hr, h7⟩ := m_sr_r h6
    cases r with
    | none => exact lv_astoreN hx hb hd (m_all_has h5) hi rfl (fun ls' hl => K ρ H locs ls' _ h1 h2 h3 h4 (m_sto_ok h5 (m_rr_v hr) hl) h7)
    | some a => exact lv_astore hx hb hd (m_all_has h5) hi rfl (fun ls' hl => K ρ H locs ls' _ h1 h2 h3 h4 (m_sto_ok h5 (m_rr_v hr) hl) h7)
  · -- astore_n
    obtain ⟨rfl, hm2⟩ := m_ny_ok hm
    obtain ⟨x, rfl, rfl, hi⟩ := m_sta_ok hm2
    obtain ⟨r, s', rfl, hr, h7⟩ := m_sr_r h6
    cases r with
    | none => exact lv_astore_nN hx hb hd rfl (m_all_has h5) hi rfl (fun ls' hl => K ρ H locs ls' _ h1 h2 h3 h4 (m_sto_ok h5 (m_rr_v hr) hl) h7)
    | some a => exact lv_astore_n hx hb hd rfl (m_all_has h5) hi rfl (fun ls' hl => K ρ H locs ls' _ h1 h2 h3 h4 (m_sto_ok h5 (m_rr_v hr) hl) h7)
  · -- iinc
    split at hm
    · rename_i x hl
      split at hm
      · rename_i hi
        cases hm
        obtain ⟨w, g1, g2⟩ := h5.2.2 _ _ hl
        cases (show w = .int x from g2)
        obtain ⟨q, hq⟩ := List.getElem?_of_mem (m_all_mem.mpr g1)
        exact lv_iinc hx hb hd (m_all_has h5) hq rfl hi rfl (fun ls' hl => K ρ H locs ls' _ h1 h2 h3 h4 (m_sto_ok h5 (x := .inl _) rfl hl) h6)
      · cases hm
    · cases hm
  · -- iadd
    obtain ⟨rfl, rfl, hm2⟩ := m_nx_ok hm
    obtain ⟨x, y, s0, rfl, rfl⟩ := m_b32_ok hm2
    obtain ⟨_, rfl, h7⟩ := m_sr_i h6
    obtain ⟨_, rfl, h8⟩ := m_sr_i h7
    exact lv_iadd hx hb hd (K ρ H locs ls _ h1 h2 h3 h4 h5 ⟨rfl, h8⟩)
  · -- isub
    obtain ⟨rfl, rfl, hm2⟩ := m_nx_ok hm
    obtain ⟨x, y, s0, rfl, rfl⟩ := m_b32_ok hm2
    obtain ⟨_, rfl, h7⟩ := m_sr_i h6
    obtain ⟨_, rfl, h8⟩ := m_sr_i h7
    exact lv_isub hx hb hd (K ρ H locs ls _ h1 h2 h3 h4 h5 ⟨rfl, h8⟩)
  · -- imul
    obtain ⟨rfl, rfl, hm2⟩ := m_nx_ok hm
    obtain ⟨x, y, s0, rfl, rfl⟩ := m_b32_ok hm2
    obtain ⟨_, rfl, h7⟩ := m_sr_i h6
    obtain ⟨_, rfl, h8⟩ := m_sr_i h7
    exact lv_imul hx hb hd (K ρ H locs ls _ h1 h2 h3 h4 h5 ⟨rfl, h8⟩)
  · -- iand
    obtain ⟨rfl, rfl, hm2⟩ := m_nx_ok hm
    obtain ⟨x, y, s0, rfl, rfl⟩ := m_b32_ok hm2
    obtain ⟨_, rfl, h7⟩ := m_sr_i h6
    obtain ⟨_, rfl, h8⟩ := m_sr_i h7
    exact lv_iand hx hb hd (K ρ H locs ls _ h1 h2 h3 h4 h5 ⟨rfl, h8⟩)
  · -- ixor
    obtain ⟨rfl, rfl, hm2⟩ := m_nx_ok hm
    obtain ⟨x, y, s0, rfl, rfl⟩ := m_b32_ok hm2
    obtain ⟨_, rfl, h7⟩ := m_sr_i h6
    obtain ⟨_, rfl, h8⟩ := m_sr_i h7
    exact lv_ixor hx hb hd (K ρ H locs ls _ h1 h2 h3 h4 h5 ⟨rfl, h8⟩)
  · -- idiv
    split at hm
    · split at hm
      · cases hm
      · rename_i hne
        cases hm
        obtain ⟨_, rfl, h7⟩ := m_sr_i h6
        obtain ⟨_, rfl, h8⟩ := m_sr_i h7
        exact lv_idiv hx hb hd hne (K ρ H locs ls _ h1 h2 h3 h4 h5 ⟨rfl, h8⟩)
    · cases hm
  · -- irem
    split at hm
    · split at hm
      · cases hm
      · rename_i hne
        cases hm
        obtain ⟨_, rfl, h7⟩ := m_sr_i h6
        obtain ⟨_, rfl, h8⟩ := m_sr_i h7
        exact lv_irem hx hb hd hne (K ρ H locs ls _ h1 h2 h3 h4 h5 ⟨rfl, h8⟩)
    · cases hm
  · -- ineg
    split at hm
    · cases hm
      obtain ⟨_, rfl, h7⟩ := m_sr_i h6
      exact lv_ineg hx hb hd (K ρ H locs ls _ h1 h2 h3 h4 h5 ⟨rfl, h7⟩)
    · cases hm
  · -- ladd
    obtain ⟨rfl, rfl, hm2⟩ := m_nx_ok hm
    obtain ⟨x, y, s0, rfl, rfl⟩ := m_b64_ok hm2
    obtain ⟨_, rfl, h7⟩ := m_sr_l h6
    obtain ⟨_, rfl, h8⟩ := m_sr_l h7
    exact lv_ladd hx hb hd (K ρ H locs ls _ h1 h2 h3 h4 h5 ⟨rfl, h8⟩)
  · -- lsub
    obtain ⟨rfl, rfl, hm2⟩ := m_nx_ok hm
    obtain ⟨x, y, s0, rfl, rfl⟩ := m_b64_ok hm2
    obtain ⟨_, rfl, h7⟩ := m_sr_l h6
    obtain ⟨_, rfl, h8⟩ := m_sr_l h7
    exact lv_lsub hx hb hd (K ρ H locs ls _ h1 h2 h3 h4 h5 ⟨rfl, h8⟩)
  · -- lmul
    obtain ⟨rfl, rfl, hm2⟩ := m_nx_ok hm
    obtain ⟨x, y, s0, rfl, rfl⟩ := m_b64_ok hm2
    obtain ⟨_, rfl, h7⟩ := m_sr_l h6
    obtain ⟨_, rfl, h8⟩ := m_sr_l h7
    exact lv_lmul hx hb hd (K ρ H locs ls _ h1 h2 h3 h4 h5 ⟨rfl, h8⟩)
  · -- ldiv
    split at hm
    · split at hm
      · cases hm
      · rename_i hne
        cases hm
        obtain ⟨_, rfl, h7⟩ := m_sr_l h6
        obtain ⟨_, rfl, h8⟩ := m_sr_l h7
        exact lv_ldiv hx hb hd hne (K ρ H locs ls _ h1 h2 h3 h4 h5 ⟨rfl, h8⟩)
    · cases hm
  · -- lrem
    split at hm
    · split at hm
      · cases hm
      · rename_i hne
        cases hm
        obtain ⟨_, rfl, h7⟩ := m_sr_l h6
        obtain ⟨_, rfl, h8⟩ := m_sr_l h7
        exact lv_lrem hx hb hd hne (K ρ H locs ls _ h1 h2 h3 h4 h5 ⟨rfl, h8⟩)
    · cases hm
  · -- lneg
    split at hm
    · cases hm
      obtain ⟨_, rfl, h7⟩ := m_sr_l h6
      exact lv_lneg hx hb hd (K ρ H locs ls _ h1 h2 h3 h4 h5 ⟨rfl, h7⟩)
    · cases hm
  · -- lcmp
    split at hm
    · cases hm
      obtain ⟨_, rfl, h7⟩ := m_sr_l h6
      obtain ⟨_, rfl, h8⟩ := m_sr_l h7
      exact W.lcmp hx hb hd (K ρ H locs ls _ h1 h2 h3 h4 h5 ⟨rfl, h8⟩)
    · cases hm
  · -- i2l
    split at hm
    · cases hm
      obtain ⟨_, rfl, h7⟩ := m_sr_i h6
      exact lv_i2l hx hb hd rfl (K ρ H locs ls _ h1 h2 h3 h4 h5 ⟨rfl, h7⟩)
    · cases hm
  · -- l2i
    split at hm
    · cases hm
      obtain ⟨_, rfl, h7⟩ := m_sr_l h6
      exact lv_l2i hx hb hd rfl (K ρ H locs ls _ h1 h2 h3 h4 h5 ⟨rfl, h7⟩)
    · cases hm
  · -- dup
    split at hm
    · cases hm
      obtain ⟨_, rfl, h7⟩ := m_sr_i h6
      exact lv_dup hx hb hd rfl (K ρ H locs ls _ h1 h2 h3 h4 h5 ⟨rfl, rfl, h7⟩)
    · cases hm
      obtain ⟨r, _, rfl, hr, h7⟩ := m_sr_r h6
      exact lv_dup hx hb hd (m_cat_rf r) (K ρ H locs ls _ h1 h2 h3 h4 h5 ⟨m_rr_v hr, m_rr_v hr, h7⟩)
    · cases hm
  · -- dup2
    split at hm
    · cases hm
      obtain ⟨_, rfl, h7⟩ := m_sr_l h6
      exact lv_dup2_2 hx hb hd rfl (K ρ H locs ls _ h1 h2 h3 h4 h5 ⟨rfl, rfl, h7⟩)
    · cases hm
      obtain ⟨_, rfl, h7⟩ := m_sr_i h6
      obtain ⟨r, _, rfl, hr, h8⟩ := m_sr_r h7
      exact lv_dup2_11 hx hb hd rfl (m_cat_rf r) (K ρ H locs ls _ h1 h2 h3 h4 h5 ⟨rfl, m_rr_v hr, rfl, m_rr_v hr, h8⟩)
    · cases hm
  · -- pop
    split at hm
    · cases hm
      obtain ⟨_, rfl, h7⟩ := m_sr_i h6
      exact lv_pop hx hb hd rfl (K ρ H locs ls _ h1 h2 h3 h4 h5 h7)
    · cases hm
      obtain ⟨r, _, rfl, hr, h7⟩ := m_sr_r h6
      exact lv_pop hx hb hd (m_cat_rf r) (K ρ H locs ls _ h1 h2 h3 h4 h5 h7)
    · cases hm
  · -- pop2
    split at hm
    · cases hm
      obtain ⟨_, rfl, h7⟩ := m_sr_l h6
      exact lv_pop2_2 hx hb hd rfl (K ρ H locs ls _ h1 h2 h3 h4 h5 h7)
    · cases hm
  · -- goto
    cases hm
    exact lv_goto hx hb hd hr (K ρ H locs ls _ h1 h2 h3 h4 h5 h6)
  · -- tableswitch
    split at hm
    · rename_i x s0
      obtain ⟨_, rfl, h7⟩ := m_sr_i h6
      split at hm
      · rename_i hout
        cases hm
        exact lv_tableOut hx hb hd hout (Int.toNat_of_nonneg hr.1).symm (K ρ H locs ls _ h1 h2 h3 h4 h5 h7)
      · rename_i hin
        split at hm
        · rename_i o ho
          cases hm
          exact lv_tableIn hx hb hd (fun q => hin (Or.inl q)) (fun q => hin (Or.inr q)) ho (Int.toNat_of_nonneg (hr.2 o (Array.mem_toList_iff.mpr (Array.mem_of_getElem? ho)))).symm (K ρ H locs ls _ h1 h2 h3 h4 h5 h7)
        · cases hm
    · cases hm
  · -- else
    cases hm
set_option maxHeartbeats 4000000 in
theorem m_j_cond (hx : p.tables.exec = Jvm.exec) (hb : cd.code = cc) {r : mRow} {pc k n : Nat} {L : List (Option mV)} {st st' : List mV} {σ : mS} {P : Prop} (hd : decode cc pc = .ok (r.1, m_len r)) (hr : m_rowP own s args pc r) (hm : m_cond r st = some (P, st')) (hX : ∀ ρ σ H, X ρ σ H → ∀ c i c' i' a, ρ c i = some a → ρ c' i' = some a → c = c' ∧ i = i') (Kt : P → m_J p l e R s m args below meth cd Qt A ρ0 X r.2.2.1 L st' σ k n) (Kf : ¬ P → m_J p l e R s m args below meth cd Qt A ρ0 X (pc + 3) L st' σ k n) : m_J p l e R s m args below meth cd Qt A ρ0 X pc L st σ k n := by
  obtain ⟨ig, ln, ra, rb, rz⟩ := r
  intro ρ H locs ls sw h1 h2 h3 h4 h5 h6
  unfold m_cond at hm
  simp only at hm
  split at hm
  · -- ifCond
    rename_i cnd off
    split at hm
    · rename_i x s0
      cases hm
      obtain ⟨_, rfl, h7⟩ := m_sr_i h6
      have KT := fun q => Kt q ρ H locs ls _ h1 h2 h3 h4 h5 h7
      have KF := fun q => Kf q ρ H locs ls _ h1 h2 h3 h4 h5 h7
      cases cnd
      · exact lv_if_eq hx hb hd hr KT KF
      · exact lv_if_ne hx hb hd hr KT (fun q => KF (fun z => z q))
      · exact lv_if_lt hx hb hd hr KT KF
      · exact lv_if_ge hx hb hd hr KT KF
      · exact lv_if_gt hx hb hd hr KT KF
      · exact lv_if_le hx hb hd hr KT KF
    · cases hm
  · -- if_icmp
    rename_i cnd off
    split at hm
    · rename_i y x s0
      cases hm
      obtain ⟨_, rfl, h7⟩ := m_sr_i h6
      obtain ⟨_, rfl, h8⟩ := m_sr_i h7
      have KT := fun q => Kt q ρ H locs ls _ h1 h2 h3 h4 h5 h8
      have KF := fun q => Kf q ρ H locs ls _ h1 h2 h3 h4 h5 h8
      cases cnd
      · exact lv_icmp_eq hx hb hd hr KT KF
      · exact lv_icmp_ne hx hb hd hr KT (fun q => KF (fun z => z q))
      · exact lv_icmp_lt hx hb hd hr KT KF
      · exact lv_icmp_ge hx hb hd hr KT KF
      · exact lv_icmp_gt hx hb hd hr KT KF
      · exact lv_icmp_le hx hb hd hr KT KF
    · cases hm
  · -- if_acmp
    rename_i cnd off
    split at hm
    · rename_i y x s0
      obtain ⟨ry, _, rfl, hry, h7⟩ := m_sr_r h6
      obtain ⟨rx, _, rfl, hrx, h8⟩ := m_sr_r h7
      have hq : rx = ry ↔ x = y := m_rr_eq (hX ρ σ H h2) hrx hry
      split at hm
      · cases hm
        exact lv_acmp_eq hx hb hd hr (fun q => Kt (hq.mp q) ρ H locs ls _ h1 h2 h3 h4 h5 h8) (fun q => Kf (fun z => q (hq.mpr z)) ρ H locs ls _ h1 h2 h3 h4 h5 h8)
      · cases hm
        exact lv_acmp_ne hx hb hd hr (fun q => Kt (fun z => q (hq.mpr z)) ρ H locs ls _ h1 h2 h3 h4 h5 h8) (fun q => Kf (fun z => z (hq.mp q)) ρ H locs ls _ h1 h2 h3 h4 h5 h8)
    · cases hm
  · -- ifnull
    split at hm
    · rename_i x s0
      cases hm
      obtain ⟨rx, _, rfl, hrx, h7⟩ := m_sr_r h6
      cases rx with
      | none => exact lv_ifnullN hx hb hd hr (Kt (m_rr_n.mp hrx) ρ H locs ls _ h1 h2 h3 h4 h5 h7)
      | some a => exact lv_ifnull hx hb hd (Kf (fun z => by rw [z] at hrx; exact hrx) ρ H locs ls _ h1 h2 h3 h4 h5 h7)
    · cases hm
  · -- ifnonnull
    split at hm
    · rename_i x s0
      cases hm
      obtain ⟨rx, _, rfl, hrx, h7⟩ := m_sr_r h6
      cases rx with
      | none => exact lv_ifnonnullN hx hb hd (Kf (fun z => z (m_rr_n.mp hrx)) ρ H locs ls _ h1 h2 h3 h4 h5 h7)
      | some a => exact lv_ifnonnull hx hb hd hr (Kt (fun z => by rw [z] at hrx; exact hrx) ρ H locs ls _ h1 h2 h3 h4 h5 h7)
    · cases hm
  · -- else
    cases hm
end MJ
end
section
/-! names, as TURN prints them of the program -/
def RX0 : String := "NettingHall$Books"
def TX0 : u_T := fun k => match k with
  | 0 => ("NettingHall$Books", "orders", "[LNettingHall$Order;", true)
  | 1 => ("NettingHall$Books", "count", "I", false)
  | _ => ("NettingHall$Books", "stamps", "I", false)
def tyX0 : Nat → FieldType := fun k => match k with
  | 0 => .array (.object "NettingHall$Order")
  | 1 => .int
  | _ => .int
theorem nmX0 : ∀ a, a < 3 → ∀ b, b < 3 → a ≠ b → (TX0 a).2.1 ≠ (TX0 b).2.1 := by decide +kernel
theorem tyX0_ok : ∀ k, k < 3 → parseFieldDescriptor (TX0 k).2.2.1 = some (tyX0 k) := by decide +kernel
abbrev cX0_init : ByteArray := prog_2_method_1_code
def yX0_init : MethodName := ⟨RX0, "<init>", "()V"⟩
abbrev cX0_clear : ByteArray := prog_2_method_2_code
def yX0_clear : MethodName := ⟨RX0, "clear", "()V"⟩
abbrev cX0_hasRoom : ByteArray := prog_2_method_3_code
def yX0_hasRoom : MethodName := ⟨RX0, "hasRoom", "()Z"⟩
abbrev cX0_orderAt : ByteArray := prog_2_method_4_code
def yX0_orderAt : MethodName := ⟨RX0, "orderAt", "(I)LNettingHall$Order;"⟩
abbrev cX0_add : ByteArray := prog_2_method_5_code
def yX0_add : MethodName := ⟨RX0, "add", "(IIIII)LNettingHall$Order;"⟩
abbrev cX0_letStand : ByteArray := prog_2_method_6_code
def yX0_letStand : MethodName := ⟨RX0, "letStand", "(LNettingHall$Order;)V"⟩
abbrev cX0_firstOf : ByteArray := prog_2_method_7_code
def yX0_firstOf : MethodName := ⟨RX0, "firstOf", "(II)LNettingHall$Order;"⟩
abbrev cX0_shownAt : ByteArray := prog_2_method_8_code
def yX0_shownAt : MethodName := ⟨RX0, "shownAt", "(III)I"⟩
abbrev cX0_sumGoodFor : ByteArray := prog_2_method_9_code
def yX0_sumGoodFor : MethodName := ⟨RX0, "sumGoodFor", "(IIII)I"⟩
abbrev cX0_mostAt : ByteArray := prog_2_method_10_code
def yX0_mostAt : MethodName := ⟨RX0, "mostAt", "(II)I"⟩
abbrev cX0_openingPrice : ByteArray := prog_2_method_11_code
def yX0_openingPrice : MethodName := ⟨RX0, "openingPrice", "(II)I"⟩
abbrev cX0_opensBetter : ByteArray := prog_2_method_12_code
def yX0_opensBetter : MethodName := ⟨RX0, "opensBetter", "(IIII)Z"⟩
abbrev cX0_useShown : ByteArray := prog_2_method_13_code
def yX0_useShown : MethodName := ⟨RX0, "useShown", "(LNettingHall$Order;I)V"⟩
abbrev cX0_useAll : ByteArray := prog_2_method_14_code
def yX0_useAll : MethodName := ⟨RX0, "useAll", "(LNettingHall$Order;I)V"⟩
abbrev cX0_takeAwayOf : ByteArray := prog_2_method_15_code
def yX0_takeAwayOf : MethodName := ⟨RX0, "takeAwayOf", "(I)V"⟩
abbrev cX0_divide : ByteArray := prog_2_method_16_code
def yX0_divide : MethodName := ⟨RX0, "divide", "(II)V"⟩
abbrev cX0_firstToWake : ByteArray := prog_2_method_17_code
def yX0_firstToWake : MethodName := ⟨RX0, "firstToWake", "(LNettingHall$Clearing;)LNettingHall$Order;"⟩
abbrev cX0_isSameAs : ByteArray := prog_2_method_18_code
def yX0_isSameAs : MethodName := ⟨RX0, "isSameAs", "(LNettingHall$Books;)Z"⟩
def RX1 : String := "NettingHall$Call"
def TX1 : u_T := fun k => match k with
  | 0 => ("NettingHall$Call", "what", "I", true)
  | 1 => ("NettingHall$Call", "a", "I", true)
  | 2 => ("NettingHall$Call", "b", "I", true)
  | 3 => ("NettingHall$Call", "c", "I", true)
  | 4 => ("NettingHall$Call", "d", "I", false)
  | 5 => ("NettingHall$Call", "e", "I", false)
  | 6 => ("NettingHall$Call", "f", "I", false)
  | 7 => ("NettingHall$Call", "g", "I", false)
  | _ => ("NettingHall$Call", "next", "LNettingHall$Call;", false)
def tyX1 : Nat → FieldType := fun k => match k with
  | 0 => .int
  | 1 => .int
  | 2 => .int
  | 3 => .int
  | 4 => .int
  | 5 => .int
  | 6 => .int
  | 7 => .int
  | _ => .object "NettingHall$Call"
theorem nmX1 : ∀ a, a < 9 → ∀ b, b < 9 → a ≠ b → (TX1 a).2.1 ≠ (TX1 b).2.1 := by decide +kernel
theorem tyX1_ok : ∀ k, k < 9 → parseFieldDescriptor (TX1 k).2.2.1 = some (tyX1 k) := by decide +kernel
abbrev cX1_init : ByteArray := prog_3_method_1_code
def yX1_init : MethodName := ⟨RX1, "<init>", "(IIII)V"⟩
abbrev cX1_with : ByteArray := prog_3_method_2_code
def yX1_with : MethodName := ⟨RX1, "with", "(IIII)LNettingHall$Call;"⟩
def RX2 : String := "NettingHall$Clearing"
def TX2 : u_T := fun k => match k with
  | 0 => ("NettingHall$Clearing", "members", "[LNettingHall$Member;", true)
  | 1 => ("NettingHall$Clearing", "house", "LNettingHall$Member;", true)
  | 2 => ("NettingHall$Clearing", "papers", "[LNettingHall$Paper;", true)
  | 3 => ("NettingHall$Clearing", "trades", "[LNettingHall$Trade;", true)
  | 4 => ("NettingHall$Clearing", "scenarios", "[[I", true)
  | 5 => ("NettingHall$Clearing", "tradeCount", "I", false)
  | 6 => ("NettingHall$Clearing", "scenarioCount", "I", false)
  | 7 => ("NettingHall$Clearing", "time", "I", false)
  | 8 => ("NettingHall$Clearing", "failures", "I", false)
  | 9 => ("NettingHall$Clearing", "toSettle", "LNettingHall$Member;", false)
  | _ => ("NettingHall$Clearing", "losses", "J", false)
def tyX2 : Nat → FieldType := fun k => match k with
  | 0 => .array (.object "NettingHall$Member")
  | 1 => .object "NettingHall$Member"
  | 2 => .array (.object "NettingHall$Paper")
  | 3 => .array (.object "NettingHall$Trade")
  | 4 => .array (.array .int)
  | 5 => .int
  | 6 => .int
  | 7 => .int
  | 8 => .int
  | 9 => .object "NettingHall$Member"
  | _ => .long
theorem nmX2 : ∀ a, a < 11 → ∀ b, b < 11 → a ≠ b → (TX2 a).2.1 ≠ (TX2 b).2.1 := by decide +kernel
theorem tyX2_ok : ∀ k, k < 11 → parseFieldDescriptor (TX2 k).2.2.1 = some (tyX2 k) := by decide +kernel
abbrev cX2_init : ByteArray := prog_4_method_1_code
def yX2_init : MethodName := ⟨RX2, "<init>", "()V"⟩
abbrev cX2_clear : ByteArray := prog_4_method_2_code
def yX2_clear : MethodName := ⟨RX2, "clear", "()V"⟩
abbrev cX2_memberAt : ByteArray := prog_4_method_3_code
def yX2_memberAt : MethodName := ⟨RX2, "memberAt", "(I)LNettingHall$Member;"⟩
abbrev cX2_holderAt : ByteArray := prog_4_method_4_code
def yX2_holderAt : MethodName := ⟨RX2, "holderAt", "(I)LNettingHall$Member;"⟩
abbrev cX2_paperAt : ByteArray := prog_4_method_5_code
def yX2_paperAt : MethodName := ⟨RX2, "paperAt", "(I)LNettingHall$Paper;"⟩
abbrev cX2_tradeAt : ByteArray := prog_4_method_6_code
def yX2_tradeAt : MethodName := ⟨RX2, "tradeAt", "(I)LNettingHall$Trade;"⟩
abbrev cX2_hasFailed : ByteArray := prog_4_method_7_code
def yX2_hasFailed : MethodName := ⟨RX2, "hasFailed", "(I)Z"⟩
abbrev cX2_isContinuous : ByteArray := prog_4_method_8_code
def yX2_isContinuous : MethodName := ⟨RX2, "isContinuous", "(I)Z"⟩
abbrev cX2_hasRoomFor : ByteArray := prog_4_method_9_code
def yX2_hasRoomFor : MethodName := ⟨RX2, "hasRoomFor", "(I)Z"⟩
abbrev cX2_payDeposit : ByteArray := prog_4_method_10_code
def yX2_payDeposit : MethodName := ⟨RX2, "payDeposit", "(II)J"⟩
abbrev cX2_payShare : ByteArray := prog_4_method_11_code
def yX2_payShare : MethodName := ⟨RX2, "payShare", "(II)J"⟩
abbrev cX2_addScenario : ByteArray := prog_4_method_12_code
def yX2_addScenario : MethodName := ⟨RX2, "addScenario", "(III)I"⟩
abbrev cX2_makeTrade : ByteArray := prog_4_method_13_code
def yX2_makeTrade : MethodName := ⟨RX2, "makeTrade", "(LNettingHall$Paper;IIIIZ)V"⟩
abbrev cX2_canBeBroken : ByteArray := prog_4_method_14_code
def yX2_canBeBroken : MethodName := ⟨RX2, "canBeBroken", "(LNettingHall$Trade;)Z"⟩
abbrev cX2_undoTrade : ByteArray := prog_4_method_15_code
def yX2_undoTrade : MethodName := ⟨RX2, "undoTrade", "(I)V"⟩
abbrev cX2_hasTraded : ByteArray := prog_4_method_16_code
def yX2_hasTraded : MethodName := ⟨RX2, "hasTraded", "(IIII)Z"⟩
abbrev cX2_divide : ByteArray := prog_4_method_17_code
def yX2_divide : MethodName := ⟨RX2, "divide", "(LNettingHall$Paper;I)V"⟩
abbrev cX2_payDividend : ByteArray := prog_4_method_18_code
def yX2_payDividend : MethodName := ⟨RX2, "payDividend", "(II)J"⟩
abbrev cX2_payDividendTo : ByteArray := prog_4_method_19_code
def yX2_payDividendTo : MethodName := ⟨RX2, "payDividendTo", "(LNettingHall$Member;II)J"⟩
abbrev cX2_worthOf : ByteArray := prog_4_method_20_code
def yX2_worthOf : MethodName := ⟨RX2, "worthOf", "(LNettingHall$Member;)J"⟩
abbrev cX2_marginOf : ByteArray := prog_4_method_21_code
def yX2_marginOf : MethodName := ⟨RX2, "marginOf", "(LNettingHall$Member;)J"⟩
abbrev cX2_lossBy : ByteArray := prog_4_method_22_code
def yX2_lossBy : MethodName := ⟨RX2, "lossBy", "(LNettingHall$Member;[I)J"⟩
abbrev cX2_reviewCalls : ByteArray := prog_4_method_23_code
def yX2_reviewCalls : MethodName := ⟨RX2, "reviewCalls", "()V"⟩
abbrev cX2_nextToFail : ByteArray := prog_4_method_24_code
def yX2_nextToFail : MethodName := ⟨RX2, "nextToFail", "()LNettingHall$Member;"⟩
abbrev cX2_letFail : ByteArray := prog_4_method_25_code
def yX2_letFail : MethodName := ⟨RX2, "letFail", "(LNettingHall$Member;)V"⟩
abbrev cX2_sellOut : ByteArray := prog_4_method_26_code
def yX2_sellOut : MethodName := ⟨RX2, "sellOut", "(III)J"⟩
abbrev cX2_settleFailed : ByteArray := prog_4_method_27_code
def yX2_settleFailed : MethodName := ⟨RX2, "settleFailed", "()J"⟩
abbrev cX2_takeShare : ByteArray := prog_4_method_28_code
def yX2_takeShare : MethodName := ⟨RX2, "takeShare", "(LNettingHall$Member;J)J"⟩
abbrev cX2_takeFromOthers : ByteArray := prog_4_method_29_code
def yX2_takeFromOthers : MethodName := ⟨RX2, "takeFromOthers", "(LNettingHall$Member;J)J"⟩
abbrev cX2_isSameAs : ByteArray := prog_4_method_30_code
def yX2_isSameAs : MethodName := ⟨RX2, "isSameAs", "(LNettingHall$Clearing;)Z"⟩
def RX3 : String := "NettingHall$Feed"
def TX3 : u_T := fun k => match k with
  | 0 => ("NettingHall$Feed", "keys", "[I", true)
  | 1 => ("NettingHall$Feed", "quantities", "[I", true)
  | 2 => ("NettingHall$Feed", "readers", "[LNettingHall$Reader;", true)
  | 3 => ("NettingHall$Feed", "fresh", "LNettingHall$Levels;", false)
  | 4 => ("NettingHall$Feed", "told", "LNettingHall$Levels;", false)
  | _ => ("NettingHall$Feed", "count", "I", false)
def tyX3 : Nat → FieldType := fun k => match k with
  | 0 => .array .int
  | 1 => .array .int
  | 2 => .array (.object "NettingHall$Reader")
  | 3 => .object "NettingHall$Levels"
  | 4 => .object "NettingHall$Levels"
  | _ => .int
theorem nmX3 : ∀ a, a < 6 → ∀ b, b < 6 → a ≠ b → (TX3 a).2.1 ≠ (TX3 b).2.1 := by decide +kernel
theorem tyX3_ok : ∀ k, k < 6 → parseFieldDescriptor (TX3 k).2.2.1 = some (tyX3 k) := by decide +kernel
abbrev cX3_init : ByteArray := prog_5_method_1_code
def yX3_init : MethodName := ⟨RX3, "<init>", "()V"⟩
abbrev cX3_keyOf : ByteArray := prog_5_method_2_code
def yX3_keyOf : MethodName := ⟨RX3, "keyOf", "(LNettingHall$Order;)I"⟩
abbrev cX3_readerAt : ByteArray := prog_5_method_3_code
def yX3_readerAt : MethodName := ⟨RX3, "readerAt", "(I)LNettingHall$Reader;"⟩
abbrev cX3_tell : ByteArray := prog_5_method_4_code
def yX3_tell : MethodName := ⟨RX3, "tell", "(LNettingHall$Books;)V"⟩
abbrev cX3_addMessage : ByteArray := prog_5_method_5_code
def yX3_addMessage : MethodName := ⟨RX3, "addMessage", "(II)V"⟩
abbrev cX3_readNext : ByteArray := prog_5_method_6_code
def yX3_readNext : MethodName := ⟨RX3, "readNext", "(LNettingHall$Reader;)I"⟩
abbrev cX3_loseNext : ByteArray := prog_5_method_7_code
def yX3_loseNext : MethodName := ⟨RX3, "loseNext", "(LNettingHall$Reader;)I"⟩
abbrev cX3_copyAll : ByteArray := prog_5_method_8_code
def yX3_copyAll : MethodName := ⟨RX3, "copyAll", "(LNettingHall$Reader;)I"⟩
def RX4 : String := "NettingHall$Hall"
def TX4 : u_T := fun k => match k with
  | 0 => ("NettingHall$Hall", "books", "LNettingHall$Books;", true)
  | _ => ("NettingHall$Hall", "clearing", "LNettingHall$Clearing;", true)
def tyX4 : Nat → FieldType := fun k => match k with
  | 0 => .object "NettingHall$Books"
  | _ => .object "NettingHall$Clearing"
theorem nmX4 : ∀ a, a < 2 → ∀ b, b < 2 → a ≠ b → (TX4 a).2.1 ≠ (TX4 b).2.1 := by decide +kernel
theorem tyX4_ok : ∀ k, k < 2 → parseFieldDescriptor (TX4 k).2.2.1 = some (tyX4 k) := by decide +kernel
abbrev cX4_init : ByteArray := prog_6_method_1_code
def yX4_init : MethodName := ⟨RX4, "<init>", "()V"⟩
abbrev cX4_clear : ByteArray := prog_6_method_2_code
def yX4_clear : MethodName := ⟨RX4, "clear", "()V"⟩
abbrev cX4_isSameAs : ByteArray := prog_6_method_3_code
def yX4_isSameAs : MethodName := ⟨RX4, "isSameAs", "(LNettingHall$Hall;)Z"⟩
abbrev cX4_perform : ByteArray := prog_6_method_4_code
def yX4_perform : MethodName := ⟨RX4, "perform", "(LNettingHall$Call;)J"⟩
abbrev cX4_changePaper : ByteArray := prog_6_method_5_code
def yX4_changePaper : MethodName := ⟨RX4, "changePaper", "(LNettingHall$Call;)J"⟩
abbrev cX4_moveMoney : ByteArray := prog_6_method_6_code
def yX4_moveMoney : MethodName := ⟨RX4, "moveMoney", "(LNettingHall$Call;)J"⟩
abbrev cX4_letOrderCome : ByteArray := prog_6_method_7_code
def yX4_letOrderCome : MethodName := ⟨RX4, "letOrderCome", "(LNettingHall$Call;)I"⟩
abbrev cX4_letStopWait : ByteArray := prog_6_method_8_code
def yX4_letStopWait : MethodName := ⟨RX4, "letStopWait", "(LNettingHall$Call;)I"⟩
abbrev cX4_enter : ByteArray := prog_6_method_9_code
def yX4_enter : MethodName := ⟨RX4, "enter", "(LNettingHall$Order;Z)V"⟩
abbrev cX4_tradeWith : ByteArray := prog_6_method_10_code
def yX4_tradeWith : MethodName := ⟨RX4, "tradeWith", "(LNettingHall$Order;LNettingHall$Order;LNettingHall$Paper;I)V"⟩
abbrev cX4_takeAway : ByteArray := prog_6_method_11_code
def yX4_takeAway : MethodName := ⟨RX4, "takeAway", "(LNettingHall$Order;)V"⟩
abbrev cX4_wakeStops : ByteArray := prog_6_method_12_code
def yX4_wakeStops : MethodName := ⟨RX4, "wakeStops", "()V"⟩
abbrev cX4_tieOrders : ByteArray := prog_6_method_13_code
def yX4_tieOrders : MethodName := ⟨RX4, "tieOrders", "(II)I"⟩
abbrev cX4_cancelOrder : ByteArray := prog_6_method_14_code
def yX4_cancelOrder : MethodName := ⟨RX4, "cancelOrder", "(I)I"⟩
abbrev cX4_letSpreadCome : ByteArray := prog_6_method_15_code
def yX4_letSpreadCome : MethodName := ⟨RX4, "letSpreadCome", "(IIIII)I"⟩
abbrev cX4_tradeSpread : ByteArray := prog_6_method_16_code
def yX4_tradeSpread : MethodName := ⟨RX4, "tradeSpread", "(ILNettingHall$Order;LNettingHall$Order;I)I"⟩
abbrev cX4_openPaper : ByteArray := prog_6_method_17_code
def yX4_openPaper : MethodName := ⟨RX4, "openPaper", "(LNettingHall$Paper;)I"⟩
abbrev cX4_tradeInOpening : ByteArray := prog_6_method_18_code
def yX4_tradeInOpening : MethodName := ⟨RX4, "tradeInOpening", "(LNettingHall$Paper;ILNettingHall$Order;LNettingHall$Order;I)I"⟩
abbrev cX4_passTicks : ByteArray := prog_6_method_19_code
def yX4_passTicks : MethodName := ⟨RX4, "passTicks", "(I)I"⟩
def RX5 : String := "NettingHall$Levels"
def TX5 : u_T := fun k => match k with
  | 0 => ("NettingHall$Levels", "keys", "[I", true)
  | 1 => ("NettingHall$Levels", "quantities", "[I", true)
  | _ => ("NettingHall$Levels", "count", "I", false)
def tyX5 : Nat → FieldType := fun k => match k with
  | 0 => .array .int
  | 1 => .array .int
  | _ => .int
theorem nmX5 : ∀ a, a < 3 → ∀ b, b < 3 → a ≠ b → (TX5 a).2.1 ≠ (TX5 b).2.1 := by decide +kernel
theorem tyX5_ok : ∀ k, k < 3 → parseFieldDescriptor (TX5 k).2.2.1 = some (tyX5 k) := by decide +kernel
abbrev cX5_init : ByteArray := prog_7_method_1_code
def yX5_init : MethodName := ⟨RX5, "<init>", "()V"⟩
abbrev cX5_quantityAt : ByteArray := prog_7_method_2_code
def yX5_quantityAt : MethodName := ⟨RX5, "quantityAt", "(I)I"⟩
abbrev cX5_keyAbove : ByteArray := prog_7_method_3_code
def yX5_keyAbove : MethodName := ⟨RX5, "keyAbove", "(I)I"⟩
abbrev cX5_placeOf : ByteArray := prog_7_method_4_code
def yX5_placeOf : MethodName := ⟨RX5, "placeOf", "(I)I"⟩
abbrev cX5_put : ByteArray := prog_7_method_5_code
def yX5_put : MethodName := ⟨RX5, "put", "(II)V"⟩
abbrev cX5_makeGapAt : ByteArray := prog_7_method_6_code
def yX5_makeGapAt : MethodName := ⟨RX5, "makeGapAt", "(I)V"⟩
abbrev cX5_closeGapAt : ByteArray := prog_7_method_7_code
def yX5_closeGapAt : MethodName := ⟨RX5, "closeGapAt", "(I)V"⟩
abbrev cX5_takeOver : ByteArray := prog_7_method_8_code
def yX5_takeOver : MethodName := ⟨RX5, "takeOver", "(LNettingHall$Levels;)V"⟩
abbrev cX5_collect : ByteArray := prog_7_method_9_code
def yX5_collect : MethodName := ⟨RX5, "collect", "(LNettingHall$Books;)V"⟩
abbrev cX5_nextDifference : ByteArray := prog_7_method_10_code
def yX5_nextDifference : MethodName := ⟨RX5, "nextDifference", "(LNettingHall$Levels;I)I"⟩
abbrev cX5_differencesFrom : ByteArray := prog_7_method_11_code
def yX5_differencesFrom : MethodName := ⟨RX5, "differencesFrom", "(LNettingHall$Levels;)I"⟩
def RX6 : String := "NettingHall$Member"
def TX6 : u_T := fun k => match k with
  | 0 => ("NettingHall$Member", "number", "I", true)
  | 1 => ("NettingHall$Member", "positions", "[J", true)
  | 2 => ("NettingHall$Member", "cash", "J", false)
  | 3 => ("NettingHall$Member", "deposit", "J", false)
  | 4 => ("NettingHall$Member", "share", "J", false)
  | 5 => ("NettingHall$Member", "traded", "J", false)
  | 6 => ("NettingHall$Member", "suspicions", "I", false)
  | 7 => ("NettingHall$Member", "called", "Z", false)
  | 8 => ("NettingHall$Member", "calledAt", "I", false)
  | 9 => ("NettingHall$Member", "failed", "Z", false)
  | _ => ("NettingHall$Member", "settled", "Z", false)
def tyX6 : Nat → FieldType := fun k => match k with
  | 0 => .int
  | 1 => .array .long
  | 2 => .long
  | 3 => .long
  | 4 => .long
  | 5 => .long
  | 6 => .int
  | 7 => .boolean
  | 8 => .int
  | 9 => .boolean
  | _ => .boolean
theorem nmX6 : ∀ a, a < 11 → ∀ b, b < 11 → a ≠ b → (TX6 a).2.1 ≠ (TX6 b).2.1 := by decide +kernel
theorem tyX6_ok : ∀ k, k < 11 → parseFieldDescriptor (TX6 k).2.2.1 = some (tyX6 k) := by decide +kernel
abbrev cX6_init : ByteArray := prog_8_method_1_code
def yX6_init : MethodName := ⟨RX6, "<init>", "(I)V"⟩
abbrev cX6_clear : ByteArray := prog_8_method_2_code
def yX6_clear : MethodName := ⟨RX6, "clear", "()V"⟩
abbrev cX6_positionIn : ByteArray := prog_8_method_3_code
def yX6_positionIn : MethodName := ⟨RX6, "positionIn", "(I)J"⟩
abbrev cX6_take : ByteArray := prog_8_method_4_code
def yX6_take : MethodName := ⟨RX6, "take", "(IJJ)V"⟩
abbrev cX6_holdsNothing : ByteArray := prog_8_method_5_code
def yX6_holdsNothing : MethodName := ⟨RX6, "holdsNothing", "()Z"⟩
abbrev cX6_condition : ByteArray := prog_8_method_6_code
def yX6_condition : MethodName := ⟨RX6, "condition", "()I"⟩
abbrev cX6_amountOf : ByteArray := prog_8_method_7_code
def yX6_amountOf : MethodName := ⟨RX6, "amountOf", "(I)J"⟩
abbrev cX6_rate : ByteArray := prog_8_method_8_code
def yX6_rate : MethodName := ⟨RX6, "rate", "()I"⟩
abbrev cX6_isSameAs : ByteArray := prog_8_method_9_code
def yX6_isSameAs : MethodName := ⟨RX6, "isSameAs", "(LNettingHall$Member;)Z"⟩
def RX7 : String := "NettingHall$Order"
def TX7 : u_T := fun k => match k with
  | 0 => ("NettingHall$Order", "number", "I", true)
  | 1 => ("NettingHall$Order", "member", "I", false)
  | 2 => ("NettingHall$Order", "instrument", "I", false)
  | 3 => ("NettingHall$Order", "side", "I", false)
  | 4 => ("NettingHall$Order", "price", "I", false)
  | 5 => ("NettingHall$Order", "size", "I", false)
  | 6 => ("NettingHall$Order", "left", "I", false)
  | 7 => ("NettingHall$Order", "part", "I", false)
  | 8 => ("NettingHall$Order", "wake", "I", false)
  | 9 => ("NettingHall$Order", "state", "I", false)
  | 10 => ("NettingHall$Order", "cameAt", "I", false)
  | 11 => ("NettingHall$Order", "stamp", "I", false)
  | _ => ("NettingHall$Order", "tied", "LNettingHall$Order;", false)
def tyX7 : Nat → FieldType := fun k => match k with
  | 0 => .int
  | 1 => .int
  | 2 => .int
  | 3 => .int
  | 4 => .int
  | 5 => .int
  | 6 => .int
  | 7 => .int
  | 8 => .int
  | 9 => .int
  | 10 => .int
  | 11 => .int
  | _ => .object "NettingHall$Order"
theorem nmX7 : ∀ a, a < 13 → ∀ b, b < 13 → a ≠ b → (TX7 a).2.1 ≠ (TX7 b).2.1 := by decide +kernel
theorem tyX7_ok : ∀ k, k < 13 → parseFieldDescriptor (TX7 k).2.2.1 = some (tyX7 k) := by decide +kernel
abbrev cX7_init : ByteArray := prog_9_method_1_code
def yX7_init : MethodName := ⟨RX7, "<init>", "(I)V"⟩
abbrev cX7_isGone : ByteArray := prog_9_method_2_code
def yX7_isGone : MethodName := ⟨RX7, "isGone", "()Z"⟩
abbrev cX7_stands : ByteArray := prog_9_method_3_code
def yX7_stands : MethodName := ⟨RX7, "stands", "()Z"⟩
abbrev cX7_standsIn : ByteArray := prog_9_method_4_code
def yX7_standsIn : MethodName := ⟨RX7, "standsIn", "(II)Z"⟩
abbrev cX7_canBeTied : ByteArray := prog_9_method_5_code
def yX7_canBeTied : MethodName := ⟨RX7, "canBeTied", "()Z"⟩
abbrev cX7_isAheadOf : ByteArray := prog_9_method_6_code
def yX7_isAheadOf : MethodName := ⟨RX7, "isAheadOf", "(LNettingHall$Order;)Z"⟩
abbrev cX7_isGoodFor : ByteArray := prog_9_method_7_code
def yX7_isGoodFor : MethodName := ⟨RX7, "isGoodFor", "(I)Z"⟩
abbrev cX7_wakesAt : ByteArray := prog_9_method_8_code
def yX7_wakesAt : MethodName := ⟨RX7, "wakesAt", "(I)Z"⟩
abbrev cX7_showAnew : ByteArray := prog_9_method_9_code
def yX7_showAnew : MethodName := ⟨RX7, "showAnew", "()V"⟩
abbrev cX7_goAway : ByteArray := prog_9_method_10_code
def yX7_goAway : MethodName := ⟨RX7, "goAway", "()V"⟩
abbrev cX7_divideBy : ByteArray := prog_9_method_11_code
def yX7_divideBy : MethodName := ⟨RX7, "divideBy", "(I)V"⟩
abbrev cX7_isSameAs : ByteArray := prog_9_method_12_code
def yX7_isSameAs : MethodName := ⟨RX7, "isSameAs", "(LNettingHall$Order;)Z"⟩
abbrev cX7_tiedNumber : ByteArray := prog_9_method_13_code
def yX7_tiedNumber : MethodName := ⟨RX7, "tiedNumber", "()I"⟩
def RX8 : String := "NettingHall$Paper"
def TX8 : u_T := fun k => match k with
  | 0 => ("NettingHall$Paper", "number", "I", true)
  | 1 => ("NettingHall$Paper", "phase", "I", false)
  | 2 => ("NettingHall$Paper", "last", "I", false)
  | 3 => ("NettingHall$Paper", "reference", "I", false)
  | 4 => ("NettingHall$Paper", "band", "I", false)
  | 5 => ("NettingHall$Paper", "splits", "I", false)
  | 6 => ("NettingHall$Paper", "factor", "I", false)
  | 7 => ("NettingHall$Paper", "traded", "Z", false)
  | _ => ("NettingHall$Paper", "cost", "J", false)
def tyX8 : Nat → FieldType := fun k => match k with
  | 0 => .int
  | 1 => .int
  | 2 => .int
  | 3 => .int
  | 4 => .int
  | 5 => .int
  | 6 => .int
  | 7 => .boolean
  | _ => .long
theorem nmX8 : ∀ a, a < 9 → ∀ b, b < 9 → a ≠ b → (TX8 a).2.1 ≠ (TX8 b).2.1 := by decide +kernel
theorem tyX8_ok : ∀ k, k < 9 → parseFieldDescriptor (TX8 k).2.2.1 = some (tyX8 k) := by decide +kernel
abbrev cX8_init : ByteArray := prog_10_method_1_code
def yX8_init : MethodName := ⟨RX8, "<init>", "(I)V"⟩
abbrev cX8_clear : ByteArray := prog_10_method_2_code
def yX8_clear : MethodName := ⟨RX8, "clear", "()V"⟩
abbrev cX8_wakesStops : ByteArray := prog_10_method_3_code
def yX8_wakesStops : MethodName := ⟨RX8, "wakesStops", "()Z"⟩
abbrev cX8_isTooFar : ByteArray := prog_10_method_4_code
def yX8_isTooFar : MethodName := ⟨RX8, "isTooFar", "(I)Z"⟩
abbrev cX8_tradedAt : ByteArray := prog_10_method_5_code
def yX8_tradedAt : MethodName := ⟨RX8, "tradedAt", "(I)V"⟩
abbrev cX8_changeBand : ByteArray := prog_10_method_6_code
def yX8_changeBand : MethodName := ⟨RX8, "changeBand", "(I)I"⟩
abbrev cX8_divideBy : ByteArray := prog_10_method_7_code
def yX8_divideBy : MethodName := ⟨RX8, "divideBy", "(I)V"⟩
abbrev cX8_partOf : ByteArray := prog_10_method_8_code
def yX8_partOf : MethodName := ⟨RX8, "partOf", "(II)I"⟩
abbrev cX8_isSameAs : ByteArray := prog_10_method_9_code
def yX8_isSameAs : MethodName := ⟨RX8, "isSameAs", "(LNettingHall$Paper;)Z"⟩
def RX9 : String := "NettingHall$Reader"
def TX9 : u_T := fun k => match k with
  | 0 => ("NettingHall$Reader", "copied", "LNettingHall$Levels;", true)
  | _ => ("NettingHall$Reader", "next", "I", false)
def tyX9 : Nat → FieldType := fun k => match k with
  | 0 => .object "NettingHall$Levels"
  | _ => .int
theorem nmX9 : ∀ a, a < 2 → ∀ b, b < 2 → a ≠ b → (TX9 a).2.1 ≠ (TX9 b).2.1 := by decide +kernel
theorem tyX9_ok : ∀ k, k < 2 → parseFieldDescriptor (TX9 k).2.2.1 = some (tyX9 k) := by decide +kernel
abbrev cX9_init : ByteArray := prog_11_method_1_code
def yX9_init : MethodName := ⟨RX9, "<init>", "()V"⟩
def RX10 : String := "NettingHall$Trade"
def TX10 : u_T := fun k => match k with
  | 0 => ("NettingHall$Trade", "instrument", "I", false)
  | 1 => ("NettingHall$Trade", "price", "I", false)
  | 2 => ("NettingHall$Trade", "quantity", "I", false)
  | 3 => ("NettingHall$Trade", "buyer", "I", false)
  | 4 => ("NettingHall$Trade", "seller", "I", false)
  | 5 => ("NettingHall$Trade", "time", "I", false)
  | 6 => ("NettingHall$Trade", "factor", "I", false)
  | 7 => ("NettingHall$Trade", "buyerFee", "J", false)
  | 8 => ("NettingHall$Trade", "sellerFee", "J", false)
  | _ => ("NettingHall$Trade", "broken", "Z", false)
def tyX10 : Nat → FieldType := fun k => match k with
  | 0 => .int
  | 1 => .int
  | 2 => .int
  | 3 => .int
  | 4 => .int
  | 5 => .int
  | 6 => .int
  | 7 => .long
  | 8 => .long
  | _ => .boolean
theorem nmX10 : ∀ a, a < 10 → ∀ b, b < 10 → a ≠ b → (TX10 a).2.1 ≠ (TX10 b).2.1 := by decide +kernel
theorem tyX10_ok : ∀ k, k < 10 → parseFieldDescriptor (TX10 k).2.2.1 = some (tyX10 k) := by decide +kernel
abbrev cX10_init : ByteArray := prog_12_method_1_code
def yX10_init : MethodName := ⟨RX10, "<init>", "()V"⟩
abbrev cX10_tells : ByteArray := prog_12_method_2_code
def yX10_tells : MethodName := ⟨RX10, "tells", "(I)I"⟩
abbrev cX10_isSameAs : ByteArray := prog_12_method_3_code
def yX10_isSameAs : MethodName := ⟨RX10, "isSameAs", "(LNettingHall$Trade;)Z"⟩
def RX11 : String := "NettingHall"
def TX11 : u_T := fun k => match k with
  | 0 => ("NettingHall", "hall", "LNettingHall$Hall;", true)
  | 1 => ("NettingHall", "feed", "LNettingHall$Feed;", true)
  | 2 => ("NettingHall", "again", "LNettingHall$Hall;", false)
  | 3 => ("NettingHall", "firstCall", "LNettingHall$Call;", false)
  | 4 => ("NettingHall", "latestCall", "LNettingHall$Call;", false)
  | _ => ("NettingHall", "calls", "I", false)
def tyX11 : Nat → FieldType := fun k => match k with
  | 0 => .object "NettingHall$Hall"
  | 1 => .object "NettingHall$Feed"
  | 2 => .object "NettingHall$Hall"
  | 3 => .object "NettingHall$Call"
  | 4 => .object "NettingHall$Call"
  | _ => .int
theorem nmX11 : ∀ a, a < 6 → ∀ b, b < 6 → a ≠ b → (TX11 a).2.1 ≠ (TX11 b).2.1 := by decide +kernel
theorem tyX11_ok : ∀ k, k < 6 → parseFieldDescriptor (TX11 k).2.2.1 = some (tyX11 k) := by decide +kernel
abbrev cX11_init : ByteArray := prog_1_method_1_code
def yX11_init : MethodName := ⟨RX11, "<init>", "()V"⟩
abbrev cX11_deposit : ByteArray := prog_1_method_2_code
def yX11_deposit : MethodName := ⟨RX11, "deposit", "(II)J"⟩
abbrev cX11_fund : ByteArray := prog_1_method_3_code
def yX11_fund : MethodName := ⟨RX11, "fund", "(II)J"⟩
abbrev cX11_order : ByteArray := prog_1_method_4_code
def yX11_order : MethodName := ⟨RX11, "order", "(IIIIIII)I"⟩
abbrev cX11_stop : ByteArray := prog_1_method_5_code
def yX11_stop : MethodName := ⟨RX11, "stop", "(IIIIII)I"⟩
abbrev cX11_tie : ByteArray := prog_1_method_6_code
def yX11_tie : MethodName := ⟨RX11, "tie", "(II)V"⟩
abbrev cX11_cancel : ByteArray := prog_1_method_7_code
def yX11_cancel : MethodName := ⟨RX11, "cancel", "(I)I"⟩
abbrev cX11_spread : ByteArray := prog_1_method_8_code
def yX11_spread : MethodName := ⟨RX11, "spread", "(IIIII)I"⟩
abbrev cX11_standing : ByteArray := prog_1_method_9_code
def yX11_standing : MethodName := ⟨RX11, "standing", "(I)I"⟩
abbrev cX11_best : ByteArray := prog_1_method_10_code
def yX11_best : MethodName := ⟨RX11, "best", "(II)I"⟩
abbrev cX11_shown : ByteArray := prog_1_method_11_code
def yX11_shown : MethodName := ⟨RX11, "shown", "(III)I"⟩
abbrev cX11_band : ByteArray := prog_1_method_12_code
def yX11_band : MethodName := ⟨RX11, "band", "(II)I"⟩
abbrev cX11_halt : ByteArray := prog_1_method_13_code
def yX11_halt : MethodName := ⟨RX11, "halt", "(I)V"⟩
abbrev cX11_indicated : ByteArray := prog_1_method_14_code
def yX11_indicated : MethodName := ⟨RX11, "indicated", "(I)J"⟩
abbrev cX11_open : ByteArray := prog_1_method_15_code
def yX11_open : MethodName := ⟨RX11, "open", "(I)I"⟩
abbrev cX11_split : ByteArray := prog_1_method_16_code
def yX11_split : MethodName := ⟨RX11, "split", "(II)I"⟩
abbrev cX11_dividend : ByteArray := prog_1_method_17_code
def yX11_dividend : MethodName := ⟨RX11, "dividend", "(II)J"⟩
abbrev cX11_instrument : ByteArray := prog_1_method_18_code
def yX11_instrument : MethodName := ⟨RX11, "instrument", "(I)I"⟩
abbrev cX11_trades : ByteArray := prog_1_method_19_code
def yX11_trades : MethodName := ⟨RX11, "trades", "()I"⟩
abbrev cX11_trade : ByteArray := prog_1_method_20_code
def yX11_trade : MethodName := ⟨RX11, "trade", "(II)I"⟩
abbrev cX11_breakTrade : ByteArray := prog_1_method_21_code
def yX11_breakTrade : MethodName := ⟨RX11, "breakTrade", "(I)V"⟩
abbrev cX11_position : ByteArray := prog_1_method_22_code
def yX11_position : MethodName := ⟨RX11, "position", "(II)J"⟩
abbrev cX11_money : ByteArray := prog_1_method_23_code
def yX11_money : MethodName := ⟨RX11, "money", "(II)J"⟩
abbrev cX11_scenario : ByteArray := prog_1_method_24_code
def yX11_scenario : MethodName := ⟨RX11, "scenario", "(III)I"⟩
abbrev cX11_margin : ByteArray := prog_1_method_25_code
def yX11_margin : MethodName := ⟨RX11, "margin", "(I)J"⟩
abbrev cX11_worth : ByteArray := prog_1_method_26_code
def yX11_worth : MethodName := ⟨RX11, "worth", "(I)J"⟩
abbrev cX11_member : ByteArray := prog_1_method_27_code
def yX11_member : MethodName := ⟨RX11, "member", "(I)I"⟩
abbrev cX11_tick : ByteArray := prog_1_method_28_code
def yX11_tick : MethodName := ⟨RX11, "tick", "(I)I"⟩
abbrev cX11_sell : ByteArray := prog_1_method_29_code
def yX11_sell : MethodName := ⟨RX11, "sell", "(III)J"⟩
abbrev cX11_settle : ByteArray := prog_1_method_30_code
def yX11_settle : MethodName := ⟨RX11, "settle", "()J"⟩
abbrev cX11_read : ByteArray := prog_1_method_31_code
def yX11_read : MethodName := ⟨RX11, "read", "(I)I"⟩
abbrev cX11_lose : ByteArray := prog_1_method_32_code
def yX11_lose : MethodName := ⟨RX11, "lose", "(I)I"⟩
abbrev cX11_copy : ByteArray := prog_1_method_33_code
def yX11_copy : MethodName := ⟨RX11, "copy", "(I)I"⟩
abbrev cX11_wrong : ByteArray := prog_1_method_34_code
def yX11_wrong : MethodName := ⟨RX11, "wrong", "(I)I"⟩
abbrev cX11_replays : ByteArray := prog_1_method_35_code
def yX11_replays : MethodName := ⟨RX11, "replays", "()Z"⟩
abbrev cX11_done : ByteArray := prog_1_method_36_code
def yX11_done : MethodName := ⟨RX11, "done", "(LNettingHall$Call;J)J"⟩
abbrev cX11_keep : ByteArray := prog_1_method_37_code
def yX11_keep : MethodName := ⟨RX11, "keep", "(LNettingHall$Call;)V"⟩
abbrev cX11_mustExist : ByteArray := prog_1_method_38_code
def yX11_mustExist : MethodName := ⟨RX11, "mustExist", "(Z)V"⟩
abbrev cX11_mustFit : ByteArray := prog_1_method_39_code
def yX11_mustFit : MethodName := ⟨RX11, "mustFit", "(Z)V"⟩
abbrev cX11_mustBePossible : ByteArray := prog_1_method_40_code
def yX11_mustBePossible : MethodName := ⟨RX11, "mustBePossible", "(Z)V"⟩
abbrev cX11_isBetween : ByteArray := prog_1_method_41_code
def yX11_isBetween : MethodName := ⟨RX11, "isBetween", "(III)Z"⟩
abbrev cX11_isMember : ByteArray := prog_1_method_42_code
def yX11_isMember : MethodName := ⟨RX11, "isMember", "(I)Z"⟩
abbrev cX11_isMemberOrHouse : ByteArray := prog_1_method_43_code
def yX11_isMemberOrHouse : MethodName := ⟨RX11, "isMemberOrHouse", "(I)Z"⟩
abbrev cX11_isInstrument : ByteArray := prog_1_method_44_code
def yX11_isInstrument : MethodName := ⟨RX11, "isInstrument", "(I)Z"⟩
abbrev cX11_isSide : ByteArray := prog_1_method_45_code
def yX11_isSide : MethodName := ⟨RX11, "isSide", "(I)Z"⟩
abbrev cX11_isPrice : ByteArray := prog_1_method_46_code
def yX11_isPrice : MethodName := ⟨RX11, "isPrice", "(I)Z"⟩
abbrev cX11_isPercent : ByteArray := prog_1_method_47_code
def yX11_isPercent : MethodName := ⟨RX11, "isPercent", "(I)Z"⟩
abbrev cX11_isOrder : ByteArray := prog_1_method_48_code
def yX11_isOrder : MethodName := ⟨RX11, "isOrder", "(III)Z"⟩
def RX12 : String := "NettingHallModel"
def TX12 : u_T := fun k => match k with
  | 0 => ("NettingHallModel", "time", "I", false)
  | 1 => ("NettingHallModel", "cash", "[J", true)
  | 2 => ("NettingHallModel", "deposit", "[J", true)
  | 3 => ("NettingHallModel", "share", "[J", true)
  | 4 => ("NettingHallModel", "uncovered", "J", false)
  | 5 => ("NettingHallModel", "position", "[J", true)
  | 6 => ("NettingHallModel", "costs", "[J", true)
  | 7 => ("NettingHallModel", "losses", "J", false)
  | 8 => ("NettingHallModel", "standing", "[I", true)
  | 9 => ("NettingHallModel", "calledAt", "[I", true)
  | 10 => ("NettingHallModel", "suspicious", "[I", true)
  | 11 => ("NettingHallModel", "traded", "[J", true)
  | 12 => ("NettingHallModel", "failed", "I", false)
  | 13 => ("NettingHallModel", "phase", "[I", true)
  | 14 => ("NettingHallModel", "band", "[I", true)
  | 15 => ("NettingHallModel", "last", "[I", true)
  | 16 => ("NettingHallModel", "reference", "[I", true)
  | 17 => ("NettingHallModel", "splits", "[I", true)
  | 18 => ("NettingHallModel", "factor", "[I", true)
  | 19 => ("NettingHallModel", "hasTraded", "[Z", true)
  | 20 => ("NettingHallModel", "orders", "I", false)
  | 21 => ("NettingHallModel", "numbers", "I", false)
  | 22 => ("NettingHallModel", "whose", "[I", true)
  | 23 => ("NettingHallModel", "instrument", "[I", true)
  | 24 => ("NettingHallModel", "side", "[I", true)
  | 25 => ("NettingHallModel", "price", "[I", true)
  | 26 => ("NettingHallModel", "left", "[J", true)
  | 27 => ("NettingHallModel", "size", "[J", true)
  | 28 => ("NettingHallModel", "shown", "[J", true)
  | 29 => ("NettingHallModel", "kind", "[I", true)
  | 30 => ("NettingHallModel", "state", "[I", true)
  | 31 => ("NettingHallModel", "place", "[I", true)
  | 32 => ("NettingHallModel", "wake", "[I", true)
  | 33 => ("NettingHallModel", "came", "[I", true)
  | 34 => ("NettingHallModel", "tied", "[I", true)
  | 35 => ("NettingHallModel", "trades", "I", false)
  | 36 => ("NettingHallModel", "tradePrice", "[I", true)
  | 37 => ("NettingHallModel", "tradeQuantity", "[J", true)
  | 38 => ("NettingHallModel", "buyer", "[I", true)
  | 39 => ("NettingHallModel", "seller", "[I", true)
  | 40 => ("NettingHallModel", "tradeOf", "[I", true)
  | 41 => ("NettingHallModel", "tradeAt", "[I", true)
  | 42 => ("NettingHallModel", "tradeFactor", "[I", true)
  | 43 => ("NettingHallModel", "buyerFee", "[J", true)
  | 44 => ("NettingHallModel", "sellerFee", "[J", true)
  | 45 => ("NettingHallModel", "isBroken", "[Z", true)
  | 46 => ("NettingHallModel", "scenarios", "I", false)
  | 47 => ("NettingHallModel", "moves", "[I", true)
  | 48 => ("NettingHallModel", "level", "[J", true)
  | 49 => ("NettingHallModel", "before", "[J", true)
  | 50 => ("NettingHallModel", "messages", "I", false)
  | 51 => ("NettingHallModel", "message", "[I", true)
  | 52 => ("NettingHallModel", "told", "[J", true)
  | 53 => ("NettingHallModel", "copies", "[J", true)
  | 54 => ("NettingHallModel", "next", "[I", true)
  | _ => ("NettingHallModel", "thrown", "I", false)
def tyX12 : Nat → FieldType := fun k => match k with
  | 0 => .int
  | 1 => .array .long
  | 2 => .array .long
  | 3 => .array .long
  | 4 => .long
  | 5 => .array .long
  | 6 => .array .long
  | 7 => .long
  | 8 => .array .int
  | 9 => .array .int
  | 10 => .array .int
  | 11 => .array .long
  | 12 => .int
  | 13 => .array .int
  | 14 => .array .int
  | 15 => .array .int
  | 16 => .array .int
  | 17 => .array .int
  | 18 => .array .int
  | 19 => .array .boolean
  | 20 => .int
  | 21 => .int
  | 22 => .array .int
  | 23 => .array .int
  | 24 => .array .int
  | 25 => .array .int
  | 26 => .array .long
  | 27 => .array .long
  | 28 => .array .long
  | 29 => .array .int
  | 30 => .array .int
  | 31 => .array .int
  | 32 => .array .int
  | 33 => .array .int
  | 34 => .array .int
  | 35 => .int
  | 36 => .array .int
  | 37 => .array .long
  | 38 => .array .int
  | 39 => .array .int
  | 40 => .array .int
  | 41 => .array .int
  | 42 => .array .int
  | 43 => .array .long
  | 44 => .array .long
  | 45 => .array .boolean
  | 46 => .int
  | 47 => .array .int
  | 48 => .array .long
  | 49 => .array .long
  | 50 => .int
  | 51 => .array .int
  | 52 => .array .long
  | 53 => .array .long
  | 54 => .array .int
  | _ => .int
theorem nmX12 : ∀ a, a < 56 → ∀ b, b < 56 → a ≠ b → (TX12 a).2.1 ≠ (TX12 b).2.1 := by decide +kernel
theorem tyX12_ok : ∀ k, k < 56 → parseFieldDescriptor (TX12 k).2.2.1 = some (tyX12 k) := by decide +kernel
abbrev cX12_init : ByteArray := prog_14_method_1_code
def yX12_init : MethodName := ⟨RX12, "<init>", "()V"⟩
abbrev cX12_thrown : ByteArray := prog_14_method_2_code
def yX12_thrown : MethodName := ⟨RX12, "thrown", "()I"⟩
abbrev cX12_fails : ByteArray := prog_14_method_3_code
def yX12_fails : MethodName := ⟨RX12, "fails", "(I)Z"⟩
abbrev cX12_isIn : ByteArray := prog_14_method_4_code
def yX12_isIn : MethodName := ⟨RX12, "isIn", "(JJJ)Z"⟩
abbrev cX12_least : ByteArray := prog_14_method_5_code
def yX12_least : MethodName := ⟨RX12, "least", "(JJ)J"⟩
abbrev cX12_isMember : ByteArray := prog_14_method_6_code
def yX12_isMember : MethodName := ⟨RX12, "isMember", "(I)Z"⟩
abbrev cX12_isInstrument : ByteArray := prog_14_method_7_code
def yX12_isInstrument : MethodName := ⟨RX12, "isInstrument", "(I)Z"⟩
abbrev cX12_isPrice : ByteArray := prog_14_method_8_code
def yX12_isPrice : MethodName := ⟨RX12, "isPrice", "(I)Z"⟩
abbrev cX12_hasFailed : ByteArray := prog_14_method_9_code
def yX12_hasFailed : MethodName := ⟨RX12, "hasFailed", "(I)Z"⟩
abbrev cX12_deposit : ByteArray := prog_14_method_10_code
def yX12_deposit : MethodName := ⟨RX12, "deposit", "(II)J"⟩
abbrev cX12_fund : ByteArray := prog_14_method_11_code
def yX12_fund : MethodName := ⟨RX12, "fund", "(II)J"⟩
abbrev cX12_isGood : ByteArray := prog_14_method_12_code
def yX12_isGood : MethodName := ⟨RX12, "isGood", "(III)Z"⟩
abbrev cX12_isAhead : ByteArray := prog_14_method_13_code
def yX12_isAhead : MethodName := ⟨RX12, "isAhead", "(II)Z"⟩
abbrev cX12_first : ByteArray := prog_14_method_14_code
def yX12_first : MethodName := ⟨RX12, "first", "(II)I"⟩
abbrev cX12_goes : ByteArray := prog_14_method_15_code
def yX12_goes : MethodName := ⟨RX12, "goes", "(I)V"⟩
abbrev cX12_tells : ByteArray := prog_14_method_16_code
def yX12_tells : MethodName := ⟨RX12, "tells", "(I)V"⟩
abbrev cX12_shows : ByteArray := prog_14_method_17_code
def yX12_shows : MethodName := ⟨RX12, "shows", "(I)V"⟩
abbrev cX12_stands : ByteArray := prog_14_method_18_code
def yX12_stands : MethodName := ⟨RX12, "stands", "(I)V"⟩
abbrev cX12_uses : ByteArray := prog_14_method_19_code
def yX12_uses : MethodName := ⟨RX12, "uses", "(IJ)V"⟩
abbrev cX12_rate : ByteArray := prog_14_method_20_code
def yX12_rate : MethodName := ⟨RX12, "rate", "(I)I"⟩
abbrev cX12_trade : ByteArray := prog_14_method_21_code
def yX12_trade : MethodName := ⟨RX12, "trade", "(IIJIIZ)V"⟩
abbrev cX12_carries : ByteArray := prog_14_method_22_code
def yX12_carries : MethodName := ⟨RX12, "carries", "(IJJ)V"⟩
abbrev cX12_isBeyond : ByteArray := prog_14_method_23_code
def yX12_isBeyond : MethodName := ⟨RX12, "isBeyond", "(II)Z"⟩
abbrev cX12_comes : ByteArray := prog_14_method_24_code
def yX12_comes : MethodName := ⟨RX12, "comes", "(I)V"⟩
abbrev cX12_wakes : ByteArray := prog_14_method_25_code
def yX12_wakes : MethodName := ⟨RX12, "wakes", "()V"⟩
abbrev cX12_nextStop : ByteArray := prog_14_method_26_code
def yX12_nextStop : MethodName := ⟨RX12, "nextStop", "()I"⟩
abbrev cX12_levelOf : ByteArray := prog_14_method_27_code
def yX12_levelOf : MethodName := ⟨RX12, "levelOf", "(III)I"⟩
abbrev cX12_feeds : ByteArray := prog_14_method_28_code
def yX12_feeds : MethodName := ⟨RX12, "feeds", "()V"⟩
abbrev cX12_begins : ByteArray := prog_14_method_29_code
def yX12_begins : MethodName := ⟨RX12, "begins", "()V"⟩
abbrev cX12_ends : ByteArray := prog_14_method_30_code
def yX12_ends : MethodName := ⟨RX12, "ends", "()V"⟩
abbrev cX12_offered : ByteArray := prog_14_method_31_code
def yX12_offered : MethodName := ⟨RX12, "offered", "(IIII)J"⟩
abbrev cX12_makes : ByteArray := prog_14_method_32_code
def yX12_makes : MethodName := ⟨RX12, "makes", "(IIIIIII)I"⟩
abbrev cX12_order : ByteArray := prog_14_method_33_code
def yX12_order : MethodName := ⟨RX12, "order", "(IIIIIII)I"⟩
abbrev cX12_stop : ByteArray := prog_14_method_34_code
def yX12_stop : MethodName := ⟨RX12, "stop", "(IIIIII)I"⟩
abbrev cX12_isOrder : ByteArray := prog_14_method_35_code
def yX12_isOrder : MethodName := ⟨RX12, "isOrder", "(I)Z"⟩
abbrev cX12_tie : ByteArray := prog_14_method_36_code
def yX12_tie : MethodName := ⟨RX12, "tie", "(II)V"⟩
abbrev cX12_hasDealt : ByteArray := prog_14_method_37_code
def yX12_hasDealt : MethodName := ⟨RX12, "hasDealt", "(I)Z"⟩
abbrev cX12_cancel : ByteArray := prog_14_method_38_code
def yX12_cancel : MethodName := ⟨RX12, "cancel", "(I)I"⟩
abbrev cX12_spread : ByteArray := prog_14_method_39_code
def yX12_spread : MethodName := ⟨RX12, "spread", "(IIIII)I"⟩
abbrev cX12_drops : ByteArray := prog_14_method_40_code
def yX12_drops : MethodName := ⟨RX12, "drops", "(I)V"⟩
abbrev cX12_standing : ByteArray := prog_14_method_41_code
def yX12_standing : MethodName := ⟨RX12, "standing", "(I)I"⟩
abbrev cX12_best : ByteArray := prog_14_method_42_code
def yX12_best : MethodName := ⟨RX12, "best", "(II)I"⟩
abbrev cX12_shown : ByteArray := prog_14_method_43_code
def yX12_shown : MethodName := ⟨RX12, "shown", "(III)I"⟩
abbrev cX12_band : ByteArray := prog_14_method_44_code
def yX12_band : MethodName := ⟨RX12, "band", "(II)I"⟩
abbrev cX12_halt : ByteArray := prog_14_method_45_code
def yX12_halt : MethodName := ⟨RX12, "halt", "(I)V"⟩
abbrev cX12_sum : ByteArray := prog_14_method_46_code
def yX12_sum : MethodName := ⟨RX12, "sum", "(III)J"⟩
abbrev cX12_distance : ByteArray := prog_14_method_47_code
def yX12_distance : MethodName := ⟨RX12, "distance", "(JJ)J"⟩
abbrev cX12_found : ByteArray := prog_14_method_48_code
def yX12_found : MethodName := ⟨RX12, "found", "(I)I"⟩
abbrev cX12_indicated : ByteArray := prog_14_method_49_code
def yX12_indicated : MethodName := ⟨RX12, "indicated", "(I)J"⟩
abbrev cX12_canTrade : ByteArray := prog_14_method_50_code
def yX12_canTrade : MethodName := ⟨RX12, "canTrade", "(II)Z"⟩
abbrev cX12_open : ByteArray := prog_14_method_51_code
def yX12_open : MethodName := ⟨RX12, "open", "(I)I"⟩
abbrev cX12_opens : ByteArray := prog_14_method_52_code
def yX12_opens : MethodName := ⟨RX12, "opens", "(IJ)V"⟩
abbrev cX12_part : ByteArray := prog_14_method_53_code
def yX12_part : MethodName := ⟨RX12, "part", "(II)I"⟩
abbrev cX12_split : ByteArray := prog_14_method_54_code
def yX12_split : MethodName := ⟨RX12, "split", "(II)I"⟩
abbrev cX12_dividend : ByteArray := prog_14_method_55_code
def yX12_dividend : MethodName := ⟨RX12, "dividend", "(II)J"⟩
abbrev cX12_instrument : ByteArray := prog_14_method_56_code
def yX12_instrument : MethodName := ⟨RX12, "instrument", "(I)I"⟩
abbrev cX12_trades : ByteArray := prog_14_method_57_code
def yX12_trades : MethodName := ⟨RX12, "trades", "()I"⟩
abbrev cX12_isTrade : ByteArray := prog_14_method_58_code
def yX12_isTrade : MethodName := ⟨RX12, "isTrade", "(I)Z"⟩
abbrev cX12_trade_ : ByteArray := prog_14_method_59_code
def yX12_trade_ : MethodName := ⟨RX12, "trade", "(II)I"⟩
abbrev cX12_breakTrade : ByteArray := prog_14_method_60_code
def yX12_breakTrade : MethodName := ⟨RX12, "breakTrade", "(I)V"⟩
abbrev cX12_isHolder : ByteArray := prog_14_method_61_code
def yX12_isHolder : MethodName := ⟨RX12, "isHolder", "(I)Z"⟩
abbrev cX12_position : ByteArray := prog_14_method_62_code
def yX12_position : MethodName := ⟨RX12, "position", "(II)J"⟩
abbrev cX12_money : ByteArray := prog_14_method_63_code
def yX12_money : MethodName := ⟨RX12, "money", "(II)J"⟩
abbrev cX12_scenario : ByteArray := prog_14_method_64_code
def yX12_scenario : MethodName := ⟨RX12, "scenario", "(III)I"⟩
abbrev cX12_marginOf : ByteArray := prog_14_method_65_code
def yX12_marginOf : MethodName := ⟨RX12, "marginOf", "(I)J"⟩
abbrev cX12_worthOf : ByteArray := prog_14_method_66_code
def yX12_worthOf : MethodName := ⟨RX12, "worthOf", "(I)J"⟩
abbrev cX12_margin : ByteArray := prog_14_method_67_code
def yX12_margin : MethodName := ⟨RX12, "margin", "(I)J"⟩
abbrev cX12_worth : ByteArray := prog_14_method_68_code
def yX12_worth : MethodName := ⟨RX12, "worth", "(I)J"⟩
abbrev cX12_member : ByteArray := prog_14_method_69_code
def yX12_member : MethodName := ⟨RX12, "member", "(I)I"⟩
abbrev cX12_pending : ByteArray := prog_14_method_70_code
def yX12_pending : MethodName := ⟨RX12, "pending", "()I"⟩
abbrev cX12_fail : ByteArray := prog_14_method_71_code
def yX12_fail : MethodName := ⟨RX12, "fail", "(I)V"⟩
abbrev cX12_settlesIfClear : ByteArray := prog_14_method_72_code
def yX12_settlesIfClear : MethodName := ⟨RX12, "settlesIfClear", "()V"⟩
abbrev cX12_settles : ByteArray := prog_14_method_73_code
def yX12_settles : MethodName := ⟨RX12, "settles", "(I)J"⟩
abbrev cX12_takes : ByteArray := prog_14_method_74_code
def yX12_takes : MethodName := ⟨RX12, "takes", "(IJ)J"⟩
abbrev cX12_takesOthers : ByteArray := prog_14_method_75_code
def yX12_takesOthers : MethodName := ⟨RX12, "takesOthers", "(IJ)J"⟩
abbrev cX12_looks : ByteArray := prog_14_method_76_code
def yX12_looks : MethodName := ⟨RX12, "looks", "()V"⟩
abbrev cX12_tick : ByteArray := prog_14_method_77_code
def yX12_tick : MethodName := ⟨RX12, "tick", "(I)I"⟩
abbrev cX12_sell : ByteArray := prog_14_method_78_code
def yX12_sell : MethodName := ⟨RX12, "sell", "(III)J"⟩
abbrev cX12_settle : ByteArray := prog_14_method_79_code
def yX12_settle : MethodName := ⟨RX12, "settle", "()J"⟩
abbrev cX12_isReader : ByteArray := prog_14_method_80_code
def yX12_isReader : MethodName := ⟨RX12, "isReader", "(I)Z"⟩
abbrev cX12_read : ByteArray := prog_14_method_81_code
def yX12_read : MethodName := ⟨RX12, "read", "(I)I"⟩
abbrev cX12_lose : ByteArray := prog_14_method_82_code
def yX12_lose : MethodName := ⟨RX12, "lose", "(I)I"⟩
abbrev cX12_copy : ByteArray := prog_14_method_83_code
def yX12_copy : MethodName := ⟨RX12, "copy", "(I)I"⟩
abbrev cX12_wrong : ByteArray := prog_14_method_84_code
def yX12_wrong : MethodName := ⟨RX12, "wrong", "(I)I"⟩
abbrev cX12_replays : ByteArray := prog_14_method_85_code
def yX12_replays : MethodName := ⟨RX12, "replays", "()Z"⟩
def RL : String := "NettingHallLaw"
abbrev cL_deposit : ByteArray := method_3_code
def yL_deposit : MethodName := ⟨RL, "deposit", "(LNettingHall;II[J)I"⟩
abbrev cL_fund : ByteArray := method_4_code
def yL_fund : MethodName := ⟨RL, "fund", "(LNettingHall;II[J)I"⟩
abbrev cL_order : ByteArray := method_5_code
def yL_order : MethodName := ⟨RL, "order", "(LNettingHall;IIIIIII[J)I"⟩
abbrev cL_stop : ByteArray := method_6_code
def yL_stop : MethodName := ⟨RL, "stop", "(LNettingHall;IIIIII[J)I"⟩
abbrev cL_tie : ByteArray := method_7_code
def yL_tie : MethodName := ⟨RL, "tie", "(LNettingHall;II)I"⟩
abbrev cL_cancel : ByteArray := method_8_code
def yL_cancel : MethodName := ⟨RL, "cancel", "(LNettingHall;I[J)I"⟩
abbrev cL_spread : ByteArray := method_9_code
def yL_spread : MethodName := ⟨RL, "spread", "(LNettingHall;IIIII[J)I"⟩
abbrev cL_standing : ByteArray := method_10_code
def yL_standing : MethodName := ⟨RL, "standing", "(LNettingHall;I[J)I"⟩
abbrev cL_best : ByteArray := method_11_code
def yL_best : MethodName := ⟨RL, "best", "(LNettingHall;II[J)I"⟩
abbrev cL_shown : ByteArray := method_12_code
def yL_shown : MethodName := ⟨RL, "shown", "(LNettingHall;III[J)I"⟩
abbrev cL_band : ByteArray := method_13_code
def yL_band : MethodName := ⟨RL, "band", "(LNettingHall;II[J)I"⟩
abbrev cL_halt : ByteArray := method_14_code
def yL_halt : MethodName := ⟨RL, "halt", "(LNettingHall;I)I"⟩
abbrev cL_indicated : ByteArray := method_15_code
def yL_indicated : MethodName := ⟨RL, "indicated", "(LNettingHall;I[J)I"⟩
abbrev cL_open : ByteArray := method_16_code
def yL_open : MethodName := ⟨RL, "open", "(LNettingHall;I[J)I"⟩
abbrev cL_split : ByteArray := method_17_code
def yL_split : MethodName := ⟨RL, "split", "(LNettingHall;II[J)I"⟩
abbrev cL_dividend : ByteArray := method_18_code
def yL_dividend : MethodName := ⟨RL, "dividend", "(LNettingHall;II[J)I"⟩
abbrev cL_instrument : ByteArray := method_19_code
def yL_instrument : MethodName := ⟨RL, "instrument", "(LNettingHall;I[J)I"⟩
abbrev cL_trade : ByteArray := method_20_code
def yL_trade : MethodName := ⟨RL, "trade", "(LNettingHall;II[J)I"⟩
abbrev cL_breakTrade : ByteArray := method_21_code
def yL_breakTrade : MethodName := ⟨RL, "breakTrade", "(LNettingHall;I)I"⟩
abbrev cL_position : ByteArray := method_22_code
def yL_position : MethodName := ⟨RL, "position", "(LNettingHall;II[J)I"⟩
abbrev cL_money : ByteArray := method_23_code
def yL_money : MethodName := ⟨RL, "money", "(LNettingHall;II[J)I"⟩
abbrev cL_scenario : ByteArray := method_24_code
def yL_scenario : MethodName := ⟨RL, "scenario", "(LNettingHall;III[J)I"⟩
abbrev cL_margin : ByteArray := method_25_code
def yL_margin : MethodName := ⟨RL, "margin", "(LNettingHall;I[J)I"⟩
abbrev cL_worth : ByteArray := method_26_code
def yL_worth : MethodName := ⟨RL, "worth", "(LNettingHall;I[J)I"⟩
abbrev cL_member : ByteArray := method_27_code
def yL_member : MethodName := ⟨RL, "member", "(LNettingHall;I[J)I"⟩
abbrev cL_tick : ByteArray := method_28_code
def yL_tick : MethodName := ⟨RL, "tick", "(LNettingHall;I[J)I"⟩
abbrev cL_sell : ByteArray := method_29_code
def yL_sell : MethodName := ⟨RL, "sell", "(LNettingHall;III[J)I"⟩
abbrev cL_settle : ByteArray := method_30_code
def yL_settle : MethodName := ⟨RL, "settle", "(LNettingHall;[J)I"⟩
abbrev cL_read : ByteArray := method_31_code
def yL_read : MethodName := ⟨RL, "read", "(LNettingHall;I[J)I"⟩
abbrev cL_lose : ByteArray := method_32_code
def yL_lose : MethodName := ⟨RL, "lose", "(LNettingHall;I[J)I"⟩
abbrev cL_copy : ByteArray := method_33_code
def yL_copy : MethodName := ⟨RL, "copy", "(LNettingHall;I[J)I"⟩
abbrev cL_wrong : ByteArray := method_34_code
def yL_wrong : MethodName := ⟨RL, "wrong", "(LNettingHall;I[J)I"⟩
abbrev cL_law : ByteArray := code
def yL_law : MethodName := ⟨RL, "law", "([I)Z"⟩
end
section
/-! the model's heap beside the machine's -/
def m_cls : List vw_C := [(RX0, TX0, 3), (RX1, TX1, 9), (RX2, TX2, 11), (RX3, TX3, 6), (RX4, TX4, 2), (RX5, TX5, 3), (RX6, TX6, 11), (RX7, TX7, 13), (RX8, TX8, 9), (RX9, TX9, 2), (RX10, TX10, 10), (RX11, TX11, 6), (RX12, TX12, 56)]
def m_tys : List (Nat → FieldType) := [tyX0, tyX1, tyX2, tyX3, tyX4, tyX5, tyX6, tyX7, tyX8, tyX9, tyX10, tyX11, tyX12]
/-- kinds of arrays: their classes are 13 and on -/
def m_aty : List FieldType := [.int, .long, .boolean, .object "NettingHall$Member", .object "NettingHall$Order", .object "NettingHall$Paper", .object "NettingHall$Reader", .object "NettingHall$Trade", .array .int]
def m_ty (c k : Nat) : Nat := match m_tys[c]? with
  | some t => m_tt (t k)
  | none => match m_aty[c - 13]? with
    | some t => m_tt t
    | none => 0
def m_get (σ : mS) (c i k : Nat) : mV := match m_ty c k with
  | 1 => .inr (.inl (m_l σ c i k))
  | 2 => .inr (.inr (m_r σ c i k))
  | _ => .inl (m_i σ c i k)
def m_set (σ : mS) (c i k : Nat) (x : mV) : mS := match x with
  | .inl v => m_ci σ c i k v
  | .inr (.inl v) => m_cl σ c i k v
  | .inr (.inr v) => m_cr σ c i k v
/-- a value of the kind t -/
def m_tp (t : Nat) (x : mV) : Prop := match x with
  | .inl v => t = 0 ∨ (t = 3 ∧ (v = 0 ∨ v = 1))
  | .inr (.inl _) => t = 1
  | .inr (.inr _) => t = 2
theorem m_up_eq {α : Type} (f : Nat → Nat → Nat → α) (c k i : Nat) (v : α) : m_up f c k i v c k i = v := by simp [m_up]
theorem m_up_ne {α : Type} (f : Nat → Nat → Nat → α) {c k i c' k' i' : Nat} (v : α) (h : ¬ (c' = c ∧ k' = k ∧ i' = i)) : m_up f c k i v c' k' i' = f c' k' i' := by
  unfold m_up
  by_cases h1 : c' = c
  · by_cases h2 : k' = k
    · by_cases h3 : i' = i
      · exact absurd ⟨h1, h2, h3⟩ h
      · simp [h1, h2, h3]
    · simp [h1, h2]
  · simp [h1]
theorem m_set_1 (σ : mS) (c i k : Nat) (x : mV) : (m_set σ c i k x).1 = σ.1 := by rcases x with a | a | a <;> rfl
theorem m_set_2 (σ : mS) (c i k : Nat) (x : mV) : (m_set σ c i k x).2.1 = σ.2.1 := by rcases x with a | a | a <;> rfl
theorem m_get_ne (σ : mS) {c i k c' i' k' : Nat} (x : mV) (h : ¬ (c' = c ∧ i' = i ∧ k' = k)) : m_get (m_set σ c i k x) c' i' k' = m_get σ c' i' k' := by
  rcases x with a | a | a <;> simp only [m_set, m_ci, m_cl, m_cr, m_get, m_i, m_l, m_r, m_up_ne _ a h]
theorem m_get_eq (σ : mS) {c i k : Nat} {x : mV} (h : m_tp (m_ty c k) x) : m_get (m_set σ c i k x) c i k = x := by
  rcases x with a | a | a
  · have h' : m_ty c k = 0 ∨ (m_ty c k = 3 ∧ (a = 0 ∨ a = 1)) := h
    rcases h' with h' | ⟨h', -⟩ <;> simp only [m_set, m_ci, m_get, m_i, h', m_up_eq]
  · have h' : m_ty c k = 1 := h
    simp only [m_set, m_cl, m_get, m_l, h', m_up_eq]
  · have h' : m_ty c k = 2 := h
    simp only [m_set, m_cr, m_get, m_r, h', m_up_eq]
def m_zi {α : Type} (f : Nat → Nat → Nat → α) (c i : Nat) (v : α) : Nat → Nat → Nat → α := fun c' i' k' => if c' = c then (if i' = i then v else f c' i' k') else f c' i' k'
/-- one more of the class c (an array's length is n), all of it zero -/
def m_nu (σ : mS) (c n : Nat) : mS := (fun c' => if c' = c then σ.1 c' + 1 else σ.1 c', fun c' i' => if c' = c then (if i' = σ.1 c then n else σ.2.1 c' i') else σ.2.1 c' i', m_zi σ.2.2.1 c (σ.1 c) 0, m_zi σ.2.2.2.1 c (σ.1 c) 0, m_zi σ.2.2.2.2 c (σ.1 c) none)
def m_zero (t : Nat) : mV := match t with
  | 1 => .inr (.inl 0)
  | 2 => .inr (.inr none)
  | _ => .inl 0
theorem m_nu_old (σ : mS) {c n c' i' k' : Nat} (h : ¬ (c' = c ∧ i' = σ.1 c)) : m_get (m_nu σ c n) c' i' k' = m_get σ c' i' k' := by
  have key : ∀ {α : Type} (f : Nat → Nat → Nat → α) (v : α), m_zi f c (σ.1 c) v c' i' k' = f c' i' k' := by
    intro α f v
    unfold m_zi
    by_cases h1 : c' = c
    · by_cases h2 : i' = σ.1 c
      · exact absurd ⟨h1, h2⟩ h
      · simp [h1, h2]
    · simp [h1]
  simp only [m_get, m_i, m_l, m_r, m_nu, key]
theorem m_nu_new (σ : mS) {c n k : Nat} : m_get (m_nu σ c n) c (σ.1 c) k = m_zero (m_ty c k) := by
  have key : ∀ {α : Type} (f : Nat → Nat → Nat → α) (v : α), m_zi f c (σ.1 c) v c (σ.1 c) k = v := by
    intro α f v
    simp [m_zi]
  simp only [m_get, m_i, m_l, m_r, m_nu, key]
  unfold m_zero
  split <;> rfl
theorem m_nu_len (σ : mS) {c n c' i' : Nat} (h : ¬ (c' = c ∧ i' = σ.1 c)) : (m_nu σ c n).2.1 c' i' = σ.2.1 c' i' := by
  show (if c' = c then (if i' = σ.1 c then n else σ.2.1 c' i') else σ.2.1 c' i') = _
  by_cases h1 : c' = c
  · by_cases h2 : i' = σ.1 c
    · exact absurd ⟨h1, h2⟩ h
    · simp [h1, h2]
  · simp [h1]
theorem m_nu_lenN (σ : mS) {c n : Nat} : (m_nu σ c n).2.1 c (σ.1 c) = n := by simp [m_nu]
theorem m_nu_cnt (σ : mS) {c n : Nat} : (m_nu σ c n).1 c = σ.1 c + 1 := by simp [m_nu]
theorem m_nu_cntO (σ : mS) {c n c' : Nat} (h : c' ≠ c) : (m_nu σ c n).1 c' = σ.1 c' := by simp [m_nu, h]
/-- types that occur -/
def m_okt (t : FieldType) : Bool := match t with
  | .int => true
  | .long => true
  | .boolean => true
  | .object _ => true
  | .array _ => true
  | _ => false
theorem m_zero_vr {ρ : Nat → Nat → Option Nat} {t : FieldType} (h : m_okt t = true) : m_vr ρ (m_zero (m_tt t)) (defaultValue t) := by
  cases t <;> first | rfl | (cases h; done)
theorem m_fits_of {ρ : Nat → Nat → Option Nat} {t : FieldType} {x : mV} {w : Value} (h : m_okt t = true) (hx : m_tp (m_tt t) x) (hw : m_vr ρ x w) : narrow t w = w ∧ fits t w = true := by
  rcases x with a | a | _ | q
  · cases (show w = .int a from hw)
    cases t with
    | int => exact ⟨rfl, rfl⟩
    | boolean =>
      have hx' : (3 : Nat) = 0 ∨ ((3 : Nat) = 3 ∧ (a = 0 ∨ a = 1)) := hx
      rcases hx' with h | ⟨-, h | h⟩
      · cases h
      · subst h; exact ⟨by decide, by decide⟩
      · subst h; exact ⟨by decide, by decide⟩
    | long => have hx' : (1 : Nat) = 0 ∨ ((1 : Nat) = 3 ∧ (a = 0 ∨ a = 1)) := hx; omega
    | object n => have hx' : (2 : Nat) = 0 ∨ ((2 : Nat) = 3 ∧ (a = 0 ∨ a = 1)) := hx; omega
    | array n => have hx' : (2 : Nat) = 0 ∨ ((2 : Nat) = 3 ∧ (a = 0 ∨ a = 1)) := hx; omega
    | _ => cases h
  · cases (show w = .long a from hw)
    cases t <;> first | exact ⟨rfl, rfl⟩ | (cases h; done) | (exact absurd (show (2 : Nat) = 1 from hx) (by decide)) | (exact absurd (show (0 : Nat) = 1 from hx) (by decide)) | (exact absurd (show (3 : Nat) = 1 from hx) (by decide))
  · cases (show w = .null from hw)
    cases t <;> first | exact ⟨rfl, rfl⟩ | (cases h; done) | (exact absurd (show (1 : Nat) = 2 from hx) (by decide)) | (exact absurd (show (0 : Nat) = 2 from hx) (by decide)) | (exact absurd (show (3 : Nat) = 2 from hx) (by decide))
  · obtain ⟨a, -, h2⟩ := hw
    cases h2
    cases t <;> first | exact ⟨rfl, rfl⟩ | (cases h; done) | (exact absurd (show (1 : Nat) = 2 from hx) (by decide)) | (exact absurd (show (0 : Nat) = 2 from hx) (by decide)) | (exact absurd (show (3 : Nat) = 2 from hx) (by decide))
/-- what is printed of a class -/
theorem m_fact : ∀ (c : Nat) (r : vw_C), m_cls[c]? = some r → ∃ t, m_tys[c]? = some t ∧ (∀ k, k < r.2.2 → parseFieldDescriptor (r.2.1 k).2.2.1 = some (t k)) ∧ (∀ a, a < r.2.2 → ∀ b, b < r.2.2 → a ≠ b → (r.2.1 a).2.1 ≠ (r.2.1 b).2.1) ∧ (∀ k, k < r.2.2 → (r.2.1 k).1 = r.1) ∧ ∀ k, k < r.2.2 → m_okt (t k) = true := by
  intro c r h
  match c, h with
  | 0, h => cases h; exact ⟨tyX0, rfl, tyX0_ok, nmX0, by decide +kernel, by decide +kernel⟩
  | 1, h => cases h; exact ⟨tyX1, rfl, tyX1_ok, nmX1, by decide +kernel, by decide +kernel⟩
  | 2, h => cases h; exact ⟨tyX2, rfl, tyX2_ok, nmX2, by decide +kernel, by decide +kernel⟩
  | 3, h => cases h; exact ⟨tyX3, rfl, tyX3_ok, nmX3, by decide +kernel, by decide +kernel⟩
  | 4, h => cases h; exact ⟨tyX4, rfl, tyX4_ok, nmX4, by decide +kernel, by decide +kernel⟩
  | 5, h => cases h; exact ⟨tyX5, rfl, tyX5_ok, nmX5, by decide +kernel, by decide +kernel⟩
  | 6, h => cases h; exact ⟨tyX6, rfl, tyX6_ok, nmX6, by decide +kernel, by decide +kernel⟩
  | 7, h => cases h; exact ⟨tyX7, rfl, tyX7_ok, nmX7, by decide +kernel, by decide +kernel⟩
  | 8, h => cases h; exact ⟨tyX8, rfl, tyX8_ok, nmX8, by decide +kernel, by decide +kernel⟩
  | 9, h => cases h; exact ⟨tyX9, rfl, tyX9_ok, nmX9, by decide +kernel, by decide +kernel⟩
  | 10, h => cases h; exact ⟨tyX10, rfl, tyX10_ok, nmX10, by decide +kernel, by decide +kernel⟩
  | 11, h => cases h; exact ⟨tyX11, rfl, tyX11_ok, nmX11, by decide +kernel, by decide +kernel⟩
  | 12, h => cases h; exact ⟨tyX12, rfl, tyX12_ok, nmX12, by decide +kernel, by decide +kernel⟩
  | n + 13, h => cases h
theorem m_cls_lt {c : Nat} {r : vw_C} (h : m_cls[c]? = some r) : c < 13 := (List.getElem?_eq_some_iff.mp h).1
theorem m_ty_obj {c k : Nat} {t : Nat → FieldType} (h : m_tys[c]? = some t) : m_ty c k = m_tt (t k) := by simp [m_ty, h]
theorem m_ty_arr {j k : Nat} {t : FieldType} (h : m_aty[j]? = some t) : m_ty (j + 13) k = m_tt t := by
  have h0 : m_tys[j + 13]? = none := List.getElem?_eq_none (by show 13 ≤ j + 13; omega)
  have h1 : m_aty[j + 13 - 13]? = some t := by rw [Nat.add_sub_cancel]; exact h
  unfold m_ty
  rw [h0]
  show (match m_aty[j + 13 - 13]? with | some t => m_tt t | none => 0) = m_tt t
  rw [h1]
/-- the thing (c, i) lies at a: an object, or an array -/
def m_cell (D : va_G) (ty : List (ClassId × FieldType)) (ρ : Nat → Nat → Option Nat) (σ : mS) (c i a : Nat) (H : Heap) : Prop :=
  (∃ r, m_cls[c]? = some r ∧ ∃ V, t_OB a (D.1 c) r.2.2 (D.2 c) H V ∧ ∀ k, k < r.2.2 → m_vr ρ (m_get σ c i k) (V k)) ∨
  (∃ j q, c = j + 13 ∧ ty[j]? = some q ∧ ∃ g, H[a]? = some (arrV q.1 (σ.2.1 c i) g) ∧ ∀ k, k < σ.2.1 c i → m_vr ρ (m_get σ c i k) (g k))
/-- the whole of it; the law's script is the thing (98, 0) -/
def m_X (D : va_G) (ty : List (ClassId × FieldType)) (s : State) (xs : Option (Nat × (Nat → Int32))) (ρ : Nat → Nat → Option Nat) (σ : mS) (H : Heap) : Prop :=
  (∀ c i c' i' a, ρ c i = some a → ρ c' i' = some a → c = c' ∧ i = i') ∧ (∀ c i, i < σ.1 c → ∃ a, ρ c i = some a) ∧ (∀ c i a, ρ c i = some a → i < σ.1 c) ∧
  ∀ c i a, ρ c i = some a → (c = 98 ∧ ∃ q, xs = some q ∧ va_X a q.1 q.2 s H) ∨ (c ≠ 98 ∧ m_cell D ty ρ σ c i a H)
theorem m_cell.lt {D : va_G} {ty : List (ClassId × FieldType)} {ρ : Nat → Nat → Option Nat} {σ : mS} {c i a : Nat} {H : Heap} (h : m_cell D ty ρ σ c i a H) : a < H.size := by
  rcases h with ⟨r, -, V, ⟨cell, h, -⟩, -⟩ | ⟨j, q, -, -, g, h, -⟩
  · exact (Array.getElem?_eq_some_iff.mp h).1
  · exact (Array.getElem?_eq_some_iff.mp h).1
theorem m_X.lt {D : va_G} {ty : List (ClassId × FieldType)} {s : State} {xs : Option (Nat × (Nat → Int32))} {ρ : Nat → Nat → Option Nat} {σ : mS} {H : Heap} (h : m_X D ty s xs ρ σ H) {c i a : Nat} (ha : ρ c i = some a) : a < H.size := by
  rcases h.2.2.2 c i a ha with ⟨-, q, -, scr, h1, -⟩ | ⟨-, h1⟩
  · exact (Array.getElem?_eq_some_iff.mp h1).1
  · exact h1.lt
/-- it stays where neither the heap nor the model is changed -/
theorem m_cell.to {D : va_G} {ty : List (ClassId × FieldType)} {ρ ρ' : Nat → Nat → Option Nat} {σ σ' : mS} {c i a : Nat} {H H' : Heap} (h : m_cell D ty ρ σ c i a H) (hρ : m_le ρ ρ') (hg : ∀ k, m_get σ' c i k = m_get σ c i k) (hl : σ'.2.1 c i = σ.2.1 c i) (hq : H'[a]? = H[a]?) : m_cell D ty ρ' σ' c i a H' := by
  rcases h with ⟨r, h1, V, h2, h3⟩ | ⟨j, q, h1, h2, g, h3, h4⟩
  · exact Or.inl ⟨r, h1, V, h2.kept hq, fun k hk => by rw [hg]; exact (h3 k hk).le hρ⟩
  · exact Or.inr ⟨j, q, h1, h2, g, by rw [hq, hl]; exact h3, fun k hk => by rw [hg]; exact (h4 k (by rw [hl] at hk; exact hk)).le hρ⟩
theorem m_X.set {D : va_G} {ty : List (ClassId × FieldType)} {s : State} {xs : Option (Nat × (Nat → Int32))} {ρ : Nat → Nat → Option Nat} {σ : mS} {H H' : Heap} (h : m_X D ty s xs ρ σ H) {c i k a : Nat} {x : mV} (ha : ρ c i = some a) (hc : c ≠ 98) (hn : m_cell D ty ρ (m_set σ c i k x) c i a H') (hq : ∀ q, q ≠ a → H'[q]? = H[q]?) : m_X D ty s xs ρ (m_set σ c i k x) H' := by
  refine ⟨h.1, by rw [m_set_1]; exact h.2.1, by rw [m_set_1]; exact h.2.2.1, fun c' i' a' ha' => ?_⟩
  by_cases e : c' = c ∧ i' = i
  · obtain ⟨rfl, rfl⟩ := e
    cases ha.symm.trans ha'
    exact Or.inr ⟨hc, hn⟩
  · have hne : a' ≠ a := fun z => e (h.1 c' i' c i a (by rw [← z]; exact ha') ha)
    rcases h.2.2.2 c' i' a' ha' with ⟨h1, q, h2, h3⟩ | ⟨h1, h2⟩
    · exact Or.inl ⟨h1, q, h2, h3.kept (hq a' hne)⟩
    · exact Or.inr ⟨h1, h2.to m_le.rf (fun k' => m_get_ne σ x (fun z => e ⟨z.1, z.2.1⟩)) (by rw [m_set_2]) (hq a' hne)⟩
/-- one more thing, at a new address -/
def m_ad (ρ : Nat → Nat → Option Nat) (c i a : Nat) : Nat → Nat → Option Nat := fun c' i' => if c' = c ∧ i' = i then some a else ρ c' i'
theorem m_X.nu {D : va_G} {ty : List (ClassId × FieldType)} {s : State} {xs : Option (Nat × (Nat → Int32))} {ρ : Nat → Nat → Option Nat} {σ : mS} {H H' : Heap} (h : m_X D ty s xs ρ σ H) {c n a : Nat} (hc : c ≠ 98) (ha : H.size ≤ a) (hq : ∀ q, q < H.size → H'[q]? = H[q]?) (hn : m_cell D ty (m_ad ρ c (σ.1 c) a) (m_nu σ c n) c (σ.1 c) a H') :
    m_X D ty s xs (m_ad ρ c (σ.1 c) a) (m_nu σ c n) H' ∧ m_le ρ (m_ad ρ c (σ.1 c) a) ∧ m_ad ρ c (σ.1 c) a c (σ.1 c) = some a ∧ ∀ c' i' a', m_ad ρ c (σ.1 c) a c' i' = some a' → a' = a ∨ ρ c' i' = some a' := by
  have hno : ∀ a', ¬ ρ c (σ.1 c) = some a' := fun a' z => Nat.lt_irrefl _ (h.2.2.1 c (σ.1 c) a' z)
  have hle : m_le ρ (m_ad ρ c (σ.1 c) a) := by
    intro c' i' a' h'
    unfold m_ad
    by_cases e : c' = c ∧ i' = σ.1 c
    · obtain ⟨rfl, rfl⟩ := e
      exact absurd h' (hno a')
    · rw [if_neg e]; exact h'
  have hs : m_ad ρ c (σ.1 c) a c (σ.1 c) = some a := if_pos ⟨rfl, rfl⟩
  have hcase : ∀ c' i' a', m_ad ρ c (σ.1 c) a c' i' = some a' → (c' = c ∧ i' = σ.1 c ∧ a' = a) ∨ (¬ (c' = c ∧ i' = σ.1 c) ∧ ρ c' i' = some a') := by
    intro c' i' a' h'
    unfold m_ad at h'
    by_cases e : c' = c ∧ i' = σ.1 c
    · rw [if_pos e] at h'; cases h'; exact Or.inl ⟨e.1, e.2, rfl⟩
    · rw [if_neg e] at h'; exact Or.inr ⟨e, h'⟩
  refine ⟨⟨?_, ?_, ?_, ?_⟩, hle, hs, fun c' i' a' h' => (hcase c' i' a' h').elim (fun z => Or.inl z.2.2) (fun z => Or.inr z.2)⟩
  · intro c1 i1 c2 i2 a' e1 e2
    rcases hcase _ _ _ e1 with ⟨p1, p2, p3⟩ | ⟨p1, p2⟩ <;> rcases hcase _ _ _ e2 with ⟨q1, q2, q3⟩ | ⟨q1, q2⟩
    · exact ⟨p1.trans q1.symm, p2.trans q2.symm⟩
    · have := h.lt q2; omega
    · have := h.lt p2; omega
    · exact h.1 _ _ _ _ _ p2 q2
  · intro c' i' h'
    by_cases e : c' = c
    · subst e
      rw [m_nu_cnt] at h'
      by_cases e2 : i' = σ.1 c'
      · subst e2; exact ⟨a, hs⟩
      · obtain ⟨a', g⟩ := h.2.1 c' i' (by omega)
        exact ⟨a', hle _ _ _ g⟩
    · rw [m_nu_cntO σ e] at h'
      obtain ⟨a', g⟩ := h.2.1 c' i' h'
      exact ⟨a', hle _ _ _ g⟩
  · intro c' i' a' h'
    rcases hcase _ _ _ h' with ⟨rfl, rfl, -⟩ | ⟨-, g⟩
    · rw [m_nu_cnt]; omega
    · have g' := h.2.2.1 _ _ _ g
      by_cases e : c' = c
      · subst e; rw [m_nu_cnt]; omega
      · rw [m_nu_cntO σ e]; exact g'
  · intro c' i' a' h'
    rcases hcase _ _ _ h' with ⟨rfl, rfl, rfl⟩ | ⟨e, g⟩
    · exact Or.inr ⟨hc, hn⟩
    · have hlt := h.lt g
      rcases h.2.2.2 c' i' a' g with ⟨h1, q, h2, h3⟩ | ⟨h1, h2⟩
      · exact Or.inl ⟨h1, q, h2, h3.kept (hq a' hlt)⟩
      · exact Or.inr ⟨h1, h2.to hle (fun k' => m_nu_old σ e) (m_nu_len σ e) (hq a' hlt)⟩
end
section
/-! the instructions that take the heap -/
/-- the words of the tables that a method may lean on -/
def m_BIG : List Cond := lw_tbl.filter goodWord
theorem m_updV_eq (V : Nat → Value) (k : Nat) (v : Value) : updV V k v k = v := by simp [updV]
theorem m_updV_ne (V : Nat → Value) {k j : Nat} (v : Value) (h : j ≠ k) : updV V k v j = V j := by simp [updV, h]
theorem m_narrow_z {v : Int32} (h : v = 0 ∨ v = 1) : narrow .boolean (.int v) = .int v := by
  rcases h with h | h <;> subst h <;> decide
section MH
variable {p : Program} {l : Launch} {e : Env} {R : Room} {s : State} {m : MethodId} {args : Array Value} {below : List Frame} {meth : Method} {cd : Code} {Qt : State → Prop} {A : Nat → Prop} {ρ0 : Nat → Nat → Option Nat} {cc : ByteArray} {own : String} {D : va_G} {ty : List (ClassId × FieldType)} {xs : Option (Nat × (Nat → Int32))} {B : List Cond}
variable {pc k n : Nat} {L : List (Option mV)} {st : List mV} {σ : mS}
/-- what lies at an object's address -/
theorem m_objAt {ρ : Nat → Nat → Option Nat} {H : Heap} (h : m_X D ty s xs ρ σ H) {c i a : Nat} {r : vw_C} (ha : ρ c i = some a) (hc : m_cls[c]? = some r) : ∃ V, t_OB a (D.1 c) r.2.2 (D.2 c) H V ∧ ∀ k, k < r.2.2 → m_vr ρ (m_get σ c i k) (V k) := by
  have hlt := m_cls_lt hc
  rcases h.2.2.2 c i a ha with ⟨h1, -⟩ | ⟨-, h2⟩
  · omega
  · rcases h2 with ⟨r', h1, V, h2, h3⟩ | ⟨j, q, h1, -⟩
    · cases h1.symm.trans hc
      exact ⟨V, h2, h3⟩
    · omega
theorem m_arrAt {ρ : Nat → Nat → Option Nat} {H : Heap} (h : m_X D ty s xs ρ σ H) {j i a : Nat} (hj : j < 9) (ha : ρ (j + 13) i = some a) : ∃ q, ty[j]? = some q ∧ ∃ g, H[a]? = some (arrV q.1 (σ.2.1 (j + 13) i) g) ∧ ∀ k, k < σ.2.1 (j + 13) i → m_vr ρ (m_get σ (j + 13) i k) (g k) := by
  rcases h.2.2.2 _ i a ha with ⟨h1, -⟩ | ⟨-, h2⟩
  · omega
  · rcases h2 with ⟨r', h1, -⟩ | ⟨j', q, h1, h2, h3⟩
    · have := m_cls_lt h1; omega
    · have : j' = j := by omega
      subst this
      exact ⟨q, h2, h3⟩
theorem m_tyAt (hty : ty.map (fun q => q.2) = m_aty) {j : Nat} {q : ClassId × FieldType} {t : FieldType} (hq : ty[j]? = some q) (ht : m_aty[j]? = some t) : q.2 = t := by
  have h1 : (ty.map (fun q => q.2))[j]? = some q.2 := by rw [List.getElem?_map, hq]; rfl
  rw [hty, ht] at h1
  exact (Option.some.inj h1).symm

theorem m_j_get (hx : p.tables.exec = Jvm.exec) (hb : cd.code = cc) (hown : s.vm.findClass own = some m.cls) (HB : ∀ w ∈ B, w.before args s = true) (hK : va_K D m_cls ty s) {c i f index : Nat} {r : vw_C} (hc : m_cls[c]? = some r) (hf : f < r.2.2) (hin : ∀ w ∈ u_ws r.1 r.2.1 r.2.2, w ∈ B) (hl : (Cond.fieldLink own index r.1 (r.2.1 f).2.1 (r.2.1 f).2.2.1).before args s = true) (hd : decode cc pc = .ok (.getfield index, 3)) (K : m_J p l e R s m args below meth cd Qt A ρ0 (m_X D ty s xs) (pc + 3) L (m_get σ c i f :: st) σ k n) : m_J p l e R s m args below meth cd Qt A ρ0 (m_X D ty s xs) pc L (.inr (.inr (some (c, i))) :: st) σ k n := by
  intro ρ H locs ls sw h1 h2 h3 h4 h5 h6
  obtain ⟨rr, sw', rfl, hr, h7⟩ := m_sr_r h6
  cases rr with
  | none => exact hr.elim
  | some a =>
    obtain ⟨V, ⟨cell, q1, q2, q3, q4⟩, hV⟩ := m_objAt h2 (show ρ c i = some a from hr) hc
    obtain ⟨t, -, -, -, hdecl, -⟩ := m_fact c r hc
    obtain ⟨hS, hfc, kC, hkC, hkind⟩ := hK.1 c _ hc
    obtain ⟨cf, kf, fi, fd, hi, hsl⟩ := hS f hf
    have hi' : s.fieldFound? r.1 (r.2.1 f).2.1 (r.2.1 f).2.2.1 = some (cf, kf, fi, fd) := by rw [← hdecl f hf]; exact hi
    refine W.getf hx hb hown hl hi' (u_facts hfc hkC (u_lays HB hin hf) hi).1 q1 (by rw [q3]; exact fun h => by cases h) (v := V f) ?_ rfl rfl hd (K ρ H locs ls _ h1 h2 h3 h4 h5 ⟨hV f hf, h7⟩)
    rw [hsl, q4 f hf]
theorem m_j_put (hx : p.tables.exec = Jvm.exec) (hb : cd.code = cc) (hown : s.vm.findClass own = some m.cls) (HB : ∀ w ∈ B, w.before args s = true) (hK : va_K D m_cls ty s) {c i f index : Nat} {r : vw_C} {x : mV} (hc : m_cls[c]? = some r) (hf : f < r.2.2) (hin : ∀ w ∈ u_ws r.1 r.2.1 r.2.2, w ∈ B) (hl : (Cond.fieldLink own index r.1 (r.2.1 f).2.1 (r.2.1 f).2.2.1).before args s = true) (hfin : (r.2.1 f).2.2.2 = false) (hx0 : m_tp (m_ty c f) x) (hd : decode cc pc = .ok (.putfield index, 3)) (K : m_J p l e R s m args below meth cd Qt A ρ0 (m_X D ty s xs) (pc + 3) L st (m_set σ c i f x) k n) : m_J p l e R s m args below meth cd Qt A ρ0 (m_X D ty s xs) pc L (x :: .inr (.inr (some (c, i))) :: st) σ k n := by
  intro ρ H locs ls sw h1 h2 h3 h4 h5 h6
  cases sw with
  | nil => exact h6.elim
  | cons v sw =>
  obtain ⟨hv, h6⟩ := h6
  obtain ⟨rr, sw', rfl, hr, h7⟩ := m_sr_r h6
  cases rr with
  | none => exact hr.elim
  | some a =>
    have hr' : ρ c i = some a := hr
    obtain ⟨V, ⟨cell, q1, q2, q3, q4⟩, hV⟩ := m_objAt h2 hr' hc
    obtain ⟨t, ht, hty, hnm, hdecl, hok⟩ := m_fact c r hc
    obtain ⟨hS, hfc, kC, hkC, hkind⟩ := hK.1 c _ hc
    obtain ⟨cf, kf, fi, fd, hi, hsl⟩ := hS f hf
    have hi' : s.fieldFound? r.1 (r.2.1 f).2.1 (r.2.1 f).2.2.1 = some (cf, kf, fi, fd) := by rw [← hdecl f hf]; exact hi
    have hlt := m_cls_lt hc
    have hap := va_apart (own := own) HB hin t hty hnm hK hc
    have hst := (u_facts hfc hkC (u_lays HB hin hf) hi).1
    obtain ⟨hn1, hn2⟩ := m_fits_of (hok f hf) (by rw [← m_ty_obj ht]; exact hx0) hv
    have hlay := HB _ (hin _ (u_in_lay hf))
    unfold u_lay at hlay
    rw [if_neg (by rw [hfin]; decide)] at hlay
    have h8 := u_store hfc hkC hkind hlay hi (hty f hf) hn1 hn2
    refine W.putK hx hb (f := fd) ⟨hown, hl, ⟨_, _, _, hi'⟩, hst⟩ (by rw [q2]; exact h8) q1 q3 (by rw [hsl]; exact k2_hasslot (q4 f hf)) rfl rfl hd fun H' e1 e2 e3 => ?_
    rw [hsl] at e1 ⊢
    refine K ρ H' _ ls _ h1 (h2.set hr' (by omega) (Or.inl ⟨r, hc, updV V f v, ⟨_, e1, q2, q3, t_set q4 hap hf v⟩, fun k' hk' => ?_⟩) e3) h3 (h4.put e2 e3 (h3 c i a (by omega) hr')) h5 h7
    by_cases e : k' = f
    · subst e
      rw [m_get_eq σ hx0, m_updV_eq]; exact hv
    · rw [m_get_ne σ x (fun z => e z.2.2), m_updV_ne _ _ e]; exact hV k' hk'
theorem m_j_putF (hx : p.tables.exec = Jvm.exec) (hb : cd.code = cc) (hown : s.vm.findClass own = some m.cls) (HB : ∀ w ∈ B, w.before args s = true) (hK : va_K D m_cls ty s) {c i f index : Nat} {r : vw_C} {x : mV} (hc : m_cls[c]? = some r) (hf : f < r.2.2) (hin : ∀ w ∈ u_ws r.1 r.2.1 r.2.2, w ∈ B) (hl : (Cond.fieldLink own index r.1 (r.2.1 f).2.1 (r.2.1 f).2.2.1).before args s = true) (hfin : (r.2.1 f).2.2.2 = true) (hin2 : meth.name = "<init>") (hro : r.1 = own) (hx0 : m_tp (m_ty c f) x) (hd : decode cc pc = .ok (.putfield index, 3)) (K : m_J p l e R s m args below meth cd Qt A ρ0 (m_X D ty s xs) (pc + 3) L st (m_set σ c i f x) k n) : m_J p l e R s m args below meth cd Qt A ρ0 (m_X D ty s xs) pc L (x :: .inr (.inr (some (c, i))) :: st) σ k n := by
  intro ρ H locs ls sw h1 h2 h3 h4 h5 h6
  cases sw with
  | nil => exact h6.elim
  | cons v sw =>
  obtain ⟨hv, h6⟩ := h6
  obtain ⟨rr, sw', rfl, hr, h7⟩ := m_sr_r h6
  cases rr with
  | none => exact hr.elim
  | some a =>
    have hr' : ρ c i = some a := hr
    obtain ⟨V, ⟨cell, q1, q2, q3, q4⟩, hV⟩ := m_objAt h2 hr' hc
    obtain ⟨t, ht, hty, hnm, hdecl, hok⟩ := m_fact c r hc
    obtain ⟨hS, hfc, kC, hkC, hkind⟩ := hK.1 c _ hc
    obtain ⟨cf, kf, fi, fd, hi, hsl⟩ := hS f hf
    have hi' : s.fieldFound? r.1 (r.2.1 f).2.1 (r.2.1 f).2.2.1 = some (cf, kf, fi, fd) := by rw [← hdecl f hf]; exact hi
    have hlt := m_cls_lt hc
    have hap := va_apart (own := own) HB hin t hty hnm hK hc
    have hst := (u_facts hfc hkC (u_lays HB hin hf) hi).1
    obtain ⟨hn1, hn2⟩ := m_fits_of (hok f hf) (by rw [← m_ty_obj ht]; exact hx0) hv
    have hlay := HB _ (hin _ (u_in_lay hf))
    unfold u_lay at hlay
    rw [if_pos hfin] at hlay
    have hcf : m.cls = cf := by
      obtain ⟨_, _, c', _, _, _, -, -, hf', -, -, -, hown2, -⟩ := Cond.laysFinal_spec hlay
      have e1 : c' = cf := by have := hi.symm.trans hf'; simp at this; exact this.1.symm
      rw [hdecl f hf, hro] at hown2
      rw [← e1]; exact Option.some.inj (hown.symm.trans hown2)
    have h8 := u_fits hfc hkC hkind (Or.inr hlay) hi (hty f hf) hn1 hn2
    refine W.putFinK hx hb hown hl hi' hst hcf hin2 (by rw [q2]; exact h8) q1 q3 (by rw [hsl]; exact k2_hasslot (q4 f hf)) rfl rfl hd fun H' e1 e2 e3 => ?_
    rw [hsl] at e1 ⊢
    refine K ρ H' _ ls _ h1 (h2.set hr' (by omega) (Or.inl ⟨r, hc, updV V f v, ⟨_, e1, q2, q3, t_set q4 hap hf v⟩, fun k' hk' => ?_⟩) e3) h3 (h4.put e2 e3 (h3 c i a (by omega) hr')) h5 h7
    by_cases e : k' = f
    · subst e
      rw [m_get_eq σ hx0, m_updV_eq]; exact hv
    · rw [m_get_ne σ x (fun z => e z.2.2), m_updV_ne _ _ e]; exact hV k' hk'
theorem m_j_alen (hx : p.tables.exec = Jvm.exec) (hb : cd.code = cc) (hown : s.vm.findClass own = some m.cls) (HB : ∀ w ∈ B, w.before args s = true) (hK : va_K D m_cls ty s) {j i : Nat} (hj : j < 9) (hd : decode cc pc = .ok (.arraylength, 1)) (K : m_J p l e R s m args below meth cd Qt A ρ0 (m_X D ty s xs) (pc + 1) L (.inl (Int32.ofNat (σ.2.1 (j + 13) i)) :: st) σ k n) : m_J p l e R s m args below meth cd Qt A ρ0 (m_X D ty s xs) pc L (.inr (.inr (some (j + 13, i))) :: st) σ k n := by
  intro ρ H locs ls sw h1 h2 h3 h4 h5 h6
  obtain ⟨rr, sw', rfl, hr, h7⟩ := m_sr_r h6
  cases rr with
  | none => exact hr.elim
  | some a =>
    obtain ⟨q, hq, g, hg, -⟩ := m_arrAt h2 hj (show ρ (j + 13) i = some a from hr)
    exact W.alen hx hb hg ((hK.2 j q hq).1 _ g) (by rw [arrV_size]) rfl rfl hd (K ρ H locs ls _ h1 h2 h3 h4 h5 ⟨rfl, h7⟩)
theorem m_j_iald (hx : p.tables.exec = Jvm.exec) (hb : cd.code = cc) (hown : s.vm.findClass own = some m.cls) (HB : ∀ w ∈ B, w.before args s = true) (hK : va_K D m_cls ty s) (hty : ty.map (fun q => q.2) = m_aty) {i : Nat} {x : Int32} (hin : vp_in x (σ.2.1 13 i)) (hd : decode cc pc = .ok (.iaload, 1)) (K : m_J p l e R s m args below meth cd Qt A ρ0 (m_X D ty s xs) (pc + 1) L (m_get σ 13 i x.toNatClampNeg :: st) σ k n) : m_J p l e R s m args below meth cd Qt A ρ0 (m_X D ty s xs) pc L (.inl x :: .inr (.inr (some (13, i))) :: st) σ k n := by
  intro ρ H locs ls sw h1 h2 h3 h4 h5 h6
  obtain ⟨_, rfl, u6⟩ := m_sr_i h6
  obtain ⟨rr, sw', rfl, hr, h7⟩ := m_sr_r u6
  cases rr with
  | none => exact hr.elim
  | some a =>
    have hlt : x.toNatClampNeg < σ.2.1 13 i := Nat.not_le.mp fun q => hin (Or.inr q)
    obtain ⟨q, hq, g, hg, hgv⟩ := m_arrAt (j := 0) h2 (by decide) hr
    have he : q.2 = .int := m_tyAt hty hq rfl
    exact W.iald (v := g x.toNatClampNeg) hx hb hg (by have := (hK.2 0 q hq).1 (σ.2.1 13 i) g; rw [he] at this; exact this) (fun q => by cases q) (by rw [arrV_size]; exact hin) (by rw [arrV_read _ _ hlt]) rfl rfl hd (K ρ H locs ls _ h1 h2 h3 h4 h5 ⟨hgv _ hlt, h7⟩)
theorem m_j_lald (hx : p.tables.exec = Jvm.exec) (hb : cd.code = cc) (hown : s.vm.findClass own = some m.cls) (HB : ∀ w ∈ B, w.before args s = true) (hK : va_K D m_cls ty s) (hty : ty.map (fun q => q.2) = m_aty) {i : Nat} {x : Int32} (hin : vp_in x (σ.2.1 14 i)) (hd : decode cc pc = .ok (.laload, 1)) (K : m_J p l e R s m args below meth cd Qt A ρ0 (m_X D ty s xs) (pc + 1) L (m_get σ 14 i x.toNatClampNeg :: st) σ k n) : m_J p l e R s m args below meth cd Qt A ρ0 (m_X D ty s xs) pc L (.inl x :: .inr (.inr (some (14, i))) :: st) σ k n := by
  intro ρ H locs ls sw h1 h2 h3 h4 h5 h6
  obtain ⟨_, rfl, u6⟩ := m_sr_i h6
  obtain ⟨rr, sw', rfl, hr, h7⟩ := m_sr_r u6
  cases rr with
  | none => exact hr.elim
  | some a =>
    have hlt : x.toNatClampNeg < σ.2.1 14 i := Nat.not_le.mp fun q => hin (Or.inr q)
    obtain ⟨q, hq, g, hg, hgv⟩ := m_arrAt (j := 1) h2 (by decide) hr
    have he : q.2 = .long := m_tyAt hty hq rfl
    exact W.lald (v := g x.toNatClampNeg) hx hb hg (by have := (hK.2 1 q hq).1 (σ.2.1 14 i) g; rw [he] at this; exact this) (fun q => by cases q) (by rw [arrV_size]; exact hin) (by rw [arrV_read _ _ hlt]) rfl rfl hd (K ρ H locs ls _ h1 h2 h3 h4 h5 ⟨hgv _ hlt, h7⟩)
theorem m_j_zald (hx : p.tables.exec = Jvm.exec) (hb : cd.code = cc) (hown : s.vm.findClass own = some m.cls) (HB : ∀ w ∈ B, w.before args s = true) (hK : va_K D m_cls ty s) (hty : ty.map (fun q => q.2) = m_aty) {i : Nat} {x : Int32} (hin : vp_in x (σ.2.1 15 i)) (hd : decode cc pc = .ok (.baload, 1)) (K : m_J p l e R s m args below meth cd Qt A ρ0 (m_X D ty s xs) (pc + 1) L (m_get σ 15 i x.toNatClampNeg :: st) σ k n) : m_J p l e R s m args below meth cd Qt A ρ0 (m_X D ty s xs) pc L (.inl x :: .inr (.inr (some (15, i))) :: st) σ k n := by
  intro ρ H locs ls sw h1 h2 h3 h4 h5 h6
  obtain ⟨_, rfl, u6⟩ := m_sr_i h6
  obtain ⟨rr, sw', rfl, hr, h7⟩ := m_sr_r u6
  cases rr with
  | none => exact hr.elim
  | some a =>
    have hlt : x.toNatClampNeg < σ.2.1 15 i := Nat.not_le.mp fun q => hin (Or.inr q)
    obtain ⟨q, hq, g, hg, hgv⟩ := m_arrAt (j := 2) h2 (by decide) hr
    have he : q.2 = .boolean := m_tyAt hty hq rfl
    exact W.zald (v := g x.toNatClampNeg) hx hb hg (by have := (hK.2 2 q hq).1 (σ.2.1 15 i) g; rw [he] at this; exact this) (fun q => by cases q) (by rw [arrV_size]; exact hin) (by rw [arrV_read _ _ hlt]) rfl rfl hd (K ρ H locs ls _ h1 h2 h3 h4 h5 ⟨hgv _ hlt, h7⟩)
theorem m_j_aldq (hx : p.tables.exec = Jvm.exec) (hb : cd.code = cc) (hown : s.vm.findClass own = some m.cls) (HB : ∀ w ∈ B, w.before args s = true) (hK : va_K D m_cls ty s) (hty : ty.map (fun q => q.2) = m_aty) {j i : Nat} {x : Int32} {t : FieldType} (hj : j < 9) (ht : m_aty[j]? = some t) (hrf : t.isReference = true) (hin : vp_in x (σ.2.1 (j + 13) i)) (hd : decode cc pc = .ok (.aaload, 1)) (K : m_J p l e R s m args below meth cd Qt A ρ0 (m_X D ty s xs) (pc + 1) L (m_get σ (j + 13) i x.toNatClampNeg :: st) σ k n) : m_J p l e R s m args below meth cd Qt A ρ0 (m_X D ty s xs) pc L (.inl x :: .inr (.inr (some (j + 13, i))) :: st) σ k n := by
  intro ρ H locs ls sw h1 h2 h3 h4 h5 h6
  obtain ⟨_, rfl, u6⟩ := m_sr_i h6
  obtain ⟨rr, sw', rfl, hr, h7⟩ := m_sr_r u6
  cases rr with
  | none => exact hr.elim
  | some a =>
    have hlt : x.toNatClampNeg < σ.2.1 (j + 13) i := Nat.not_le.mp fun q => hin (Or.inr q)
    obtain ⟨q, hq, g, hg, hgv⟩ := m_arrAt h2 hj (show ρ (j + 13) i = some a from hr)
    have he : q.2 = t := m_tyAt hty hq ht
    exact W.aald (v := g x.toNatClampNeg) (ty := t) hx hb hg (by have := (hK.2 j q hq).1 (σ.2.1 (j + 13) i) g; rw [he] at this; exact this) hrf (fun q => by cases q) (by rw [arrV_size]; exact hin) (by rw [arrV_read _ _ hlt]) rfl rfl hd (K ρ H locs ls _ h1 h2 h3 h4 h5 ⟨hgv _ hlt, h7⟩)
theorem m_j_iast (hx : p.tables.exec = Jvm.exec) (hb : cd.code = cc) (hown : s.vm.findClass own = some m.cls) (HB : ∀ w ∈ B, w.before args s = true) (hK : va_K D m_cls ty s) (hty : ty.map (fun q => q.2) = m_aty) {i : Nat} {x : Int32} {v : Int32} (hin : vp_in x (σ.2.1 13 i)) (hd : decode cc pc = .ok (.iastore, 1)) (K : m_J p l e R s m args below meth cd Qt A ρ0 (m_X D ty s xs) (pc + 1) L st (m_set σ 13 i x.toNatClampNeg (.inl v)) k n) : m_J p l e R s m args below meth cd Qt A ρ0 (m_X D ty s xs) pc L (.inl v :: .inl x :: .inr (.inr (some (13, i))) :: st) σ k n := by
  intro ρ H locs ls sw h1 h2 h3 h4 h5 h6
  obtain ⟨_, rfl, u6⟩ := m_sr_i h6
  obtain ⟨_, rfl, v6⟩ := m_sr_i u6
  obtain ⟨rr, sw', rfl, hr, h7⟩ := m_sr_r v6
  cases rr with
  | none => exact hr.elim
  | some a =>
    have hr' : ρ 13 i = some a := hr
    have hlt : x.toNatClampNeg < σ.2.1 13 i := Nat.not_le.mp fun q => hin (Or.inr q)
    obtain ⟨q, hq, g, hg, hgv⟩ := m_arrAt (j := 0) h2 (by decide) hr
    have he : q.2 = .int := m_tyAt hty hq rfl
    refine W.iast hx hb hg (by have := (hK.2 0 q hq).1 (σ.2.1 13 i) g; rw [he] at this; exact this) (fun q => by cases q) (by rw [arrV_size]; exact hin) rfl rfl hd (fun H1 e1 z oq => K ρ H1 _ ls _ h1 (h2.set hr' (by decide) (Or.inr ⟨0, q, rfl, hq, updV g x.toNatClampNeg (.int v), ?_, fun k' hk' => ?_⟩) oq) h3 (h4.put z oq (h3 _ i a (by omega) hr')) h5 h7)
    · rw [e1, m_set_2]
      exact congrArg some (arrV_store _ _ _ _ _)
    · by_cases e : k' = x.toNatClampNeg
      · subst e
        rw [m_get_eq σ (show m_tp (m_ty 13 x.toNatClampNeg) (.inl v) by rw [show m_ty 13 x.toNatClampNeg = 0 from m_ty_arr (j := 0) rfl]; exact Or.inl rfl), m_updV_eq]; rfl
      · rw [m_get_ne σ _ (fun z => e z.2.2), m_updV_ne _ _ e]; exact hgv k' (by rw [m_set_2] at hk'; exact hk')
theorem m_j_last (hx : p.tables.exec = Jvm.exec) (hb : cd.code = cc) (hown : s.vm.findClass own = some m.cls) (HB : ∀ w ∈ B, w.before args s = true) (hK : va_K D m_cls ty s) (hty : ty.map (fun q => q.2) = m_aty) {i : Nat} {x : Int32} {v : Int64} (hin : vp_in x (σ.2.1 14 i)) (hd : decode cc pc = .ok (.lastore, 1)) (K : m_J p l e R s m args below meth cd Qt A ρ0 (m_X D ty s xs) (pc + 1) L st (m_set σ 14 i x.toNatClampNeg (.inr (.inl v))) k n) : m_J p l e R s m args below meth cd Qt A ρ0 (m_X D ty s xs) pc L (.inr (.inl v) :: .inl x :: .inr (.inr (some (14, i))) :: st) σ k n := by
  intro ρ H locs ls sw h1 h2 h3 h4 h5 h6
  obtain ⟨_, rfl, u6⟩ := m_sr_l h6
  obtain ⟨_, rfl, v6⟩ := m_sr_i u6
  obtain ⟨rr, sw', rfl, hr, h7⟩ := m_sr_r v6
  cases rr with
  | none => exact hr.elim
  | some a =>
    have hr' : ρ 14 i = some a := hr
    have hlt : x.toNatClampNeg < σ.2.1 14 i := Nat.not_le.mp fun q => hin (Or.inr q)
    obtain ⟨q, hq, g, hg, hgv⟩ := m_arrAt (j := 1) h2 (by decide) hr
    have he : q.2 = .long := m_tyAt hty hq rfl
    refine W.last hx hb hg (by have := (hK.2 1 q hq).1 (σ.2.1 14 i) g; rw [he] at this; exact this) (fun q => by cases q) (by rw [arrV_size]; exact hin) rfl rfl hd (fun H1 e1 z oq => K ρ H1 _ ls _ h1 (h2.set hr' (by decide) (Or.inr ⟨1, q, rfl, hq, updV g x.toNatClampNeg (.long v), ?_, fun k' hk' => ?_⟩) oq) h3 (h4.put z oq (h3 _ i a (by omega) hr')) h5 h7)
    · rw [e1, m_set_2]
      exact congrArg some (arrV_store _ _ _ _ _)
    · by_cases e : k' = x.toNatClampNeg
      · subst e
        rw [m_get_eq σ (show m_tp (m_ty 14 x.toNatClampNeg) (.inr (.inl v)) by rw [show m_ty 14 x.toNatClampNeg = 1 from m_ty_arr (j := 1) rfl]; rfl), m_updV_eq]; rfl
      · rw [m_get_ne σ _ (fun z => e z.2.2), m_updV_ne _ _ e]; exact hgv k' (by rw [m_set_2] at hk'; exact hk')
theorem m_j_zast (hx : p.tables.exec = Jvm.exec) (hb : cd.code = cc) (hown : s.vm.findClass own = some m.cls) (HB : ∀ w ∈ B, w.before args s = true) (hK : va_K D m_cls ty s) (hty : ty.map (fun q => q.2) = m_aty) {i : Nat} {x : Int32} {v : Int32} (hz : v = 0 ∨ v = 1) (hin : vp_in x (σ.2.1 15 i)) (hd : decode cc pc = .ok (.bastore, 1)) (K : m_J p l e R s m args below meth cd Qt A ρ0 (m_X D ty s xs) (pc + 1) L st (m_set σ 15 i x.toNatClampNeg (.inl v)) k n) : m_J p l e R s m args below meth cd Qt A ρ0 (m_X D ty s xs) pc L (.inl v :: .inl x :: .inr (.inr (some (15, i))) :: st) σ k n := by
  intro ρ H locs ls sw h1 h2 h3 h4 h5 h6
  obtain ⟨_, rfl, u6⟩ := m_sr_i h6
  obtain ⟨_, rfl, v6⟩ := m_sr_i u6
  obtain ⟨rr, sw', rfl, hr, h7⟩ := m_sr_r v6
  cases rr with
  | none => exact hr.elim
  | some a =>
    have hr' : ρ 15 i = some a := hr
    have hlt : x.toNatClampNeg < σ.2.1 15 i := Nat.not_le.mp fun q => hin (Or.inr q)
    obtain ⟨q, hq, g, hg, hgv⟩ := m_arrAt (j := 2) h2 (by decide) hr
    have he : q.2 = .boolean := m_tyAt hty hq rfl
    refine W.zast hx hb hg (by have := (hK.2 2 q hq).1 (σ.2.1 15 i) g; rw [he] at this; exact this) (fun q => by cases q) (by rw [arrV_size]; exact hin) rfl rfl hd (fun H1 e1 z oq => K ρ H1 _ ls _ h1 (h2.set hr' (by decide) (Or.inr ⟨2, q, rfl, hq, updV g x.toNatClampNeg (.int v), ?_, fun k' hk' => ?_⟩) oq) h3 (h4.put z oq (h3 _ i a (by omega) hr')) h5 h7)
    · rw [e1, m_set_2, m_narrow_z hz]
      exact congrArg some (arrV_store _ _ _ _ _)
    · by_cases e : k' = x.toNatClampNeg
      · subst e
        rw [m_get_eq σ (show m_tp (m_ty 15 x.toNatClampNeg) (.inl v) by rw [show m_ty 15 x.toNatClampNeg = 3 from m_ty_arr (j := 2) rfl]; exact Or.inr ⟨rfl, hz⟩), m_updV_eq]; rfl
      · rw [m_get_ne σ _ (fun z => e z.2.2), m_updV_ne _ _ e]; exact hgv k' (by rw [m_set_2] at hk'; exact hk')
theorem m_j_astq (hx : p.tables.exec = Jvm.exec) (hb : cd.code = cc) (hown : s.vm.findClass own = some m.cls) (HB : ∀ w ∈ B, w.before args s = true) (hK : va_K D m_cls ty s) (hty : ty.map (fun q => q.2) = m_aty) {j i c y : Nat} {x : Int32} {r : vw_C} (hj : j < 9) (hc : m_cls[c]? = some r) (ht : m_aty[j]? = some (.object r.1)) (hin : vp_in x (σ.2.1 (j + 13) i)) (hd : decode cc pc = .ok (.aastore, 1)) (K : m_J p l e R s m args below meth cd Qt A ρ0 (m_X D ty s xs) (pc + 1) L st (m_set σ (j + 13) i x.toNatClampNeg (.inr (.inr (some (c, y))))) k n) : m_J p l e R s m args below meth cd Qt A ρ0 (m_X D ty s xs) pc L (.inr (.inr (some (c, y))) :: .inl x :: .inr (.inr (some (j + 13, i))) :: st) σ k n := by
  intro ρ H locs ls sw h1 h2 h3 h4 h5 h6
  obtain ⟨rv, _, rfl, hrv, u6⟩ := m_sr_r h6
  obtain ⟨_, rfl, v6⟩ := m_sr_i u6
  obtain ⟨rr, sw', rfl, hr, h7⟩ := m_sr_r v6
  cases rv with
  | none => exact hrv.elim
  | some v =>
  cases rr with
  | none => exact hr.elim
  | some a =>
    have hr' : ρ (j + 13) i = some a := hr
    have hrv' : ρ c y = some v := hrv
    have hlt : x.toNatClampNeg < σ.2.1 (j + 13) i := Nat.not_le.mp fun q => hin (Or.inr q)
    have h0 : ¬ x < 0 := fun q => hin (Or.inl q)
    obtain ⟨q, hq, g, hg, hgv⟩ := m_arrAt h2 hj hr'
    have he : q.2 = .object r.1 := m_tyAt hty hq ht
    obtain ⟨V, ⟨cellV, g1, g2, g3, -⟩, -⟩ := m_objAt h2 hrv' hc
    have hcls := (hK.1 c r hc).2
    have hra := (hK.2 j q hq).2
    rw [he] at hra
    obtain ⟨kA, comp, k1, k2, k3, -⟩ := hra
    have hcomp : comp = D.1 c := Option.some.inj (k3.symm.trans hcls.1)
    subst hcomp
    obtain ⟨kC, hkC, -⟩ := hcls.2
    refine W.aast hx hb hg (fun q h => by cases h) (fun h => by cases h) k1 k2 rfl hkC ⟨h0, by rw [arrV_size]; exact hlt⟩ g1 (fun q h => by rw [g3] at h; cases h) (by rw [g2]; exact hkC) (by rw [g2]; exact va_assign hcls) rfl rfl hd (fun H1 e1 z oq => K ρ H1 _ ls _ h1 (h2.set hr' (by omega) (Or.inr ⟨j, q, rfl, hq, updV g x.toNatClampNeg (.ref v), ?_, fun k' hk' => ?_⟩) oq) h3 (h4.put z oq (h3 _ i a (by omega) hr')) h5 h7)
    · rw [e1, m_set_2]
      exact congrArg some (arrV_store _ _ _ _ _)
    · by_cases e : k' = x.toNatClampNeg
      · subst e
        rw [m_get_eq σ (show m_tp (m_ty (j + 13) _) _ by rw [m_ty_arr ht]; rfl), m_updV_eq]; exact ⟨v, hrv', rfl⟩
      · rw [m_get_ne σ _ (fun z => e z.2.2), m_updV_ne _ _ e]; exact hgv k' (by rw [m_set_2] at hk'; exact hk')
theorem m_j_new (hx : p.tables.exec = Jvm.exec) (hb : cd.code = cc) (hown : s.vm.findClass own = some m.cls) (HB : ∀ w ∈ B, w.before args s = true) (hK : va_K D m_cls ty s) (hA : ∀ q, s.heap.size ≤ q → A q) {c index : Nat} {r : vw_C} (hc : m_cls[c]? = some r) (hin : ∀ w ∈ u_ws r.1 r.2.1 r.2.2, w ∈ B) (hcl : (Cond.classLink own index r.1).before args s = true) (hinst : (Cond.instantiable r.1 r.2.2).before args s = true) (hini : (Cond.initialized r.1).before args s = true) (hcells : k + 1 ≤ R.cells) (hslots : n + r.2.2 ≤ R.slots) (hd : decode cc pc = .ok (.new index, 3)) (K : m_J p l e R s m args below meth cd Qt A ρ0 (m_X D ty s xs) (pc + 3) L (.inr (.inr (some (c, σ.1 c))) :: st) (m_nu σ c 0) (k + 1) (n + r.2.2)) : m_J p l e R s m args below meth cd Qt A ρ0 (m_X D ty s xs) pc L st σ k n := by
  intro ρ H locs ls sw h1 h2 h3 h4 h5 h6
  obtain ⟨t, ht, hty, -, -, hok⟩ := m_fact c r hc
  have hlt := m_cls_lt hc
  have hKn := hK.1 c _ hc
  refine W.newcK hx hb hown hcl hinst hini rfl hd hcells hslots hKn.2.1 rfl fun H1 kC hkC e1 z1 o1 => ?_
  obtain ⟨g1, g2, g3, g4⟩ := h2.nu (c := c) (n := 0) (by omega) (Nat.le_refl _) o1 (Or.inl ⟨r, hc, fun j => defaultValue (t j), u_born t HB hin hKn hkC e1 hty, fun k' hk' => by rw [m_nu_new, m_ty_obj ht]; exact m_zero_vr (hok k' hk')⟩)
  refine K _ H1 locs ls _ (h1.tr g2) g1 (fun c' i' a' h98 h' => ?_) ⟨Nat.le_trans h4.1 (by omega), fun q e2 e3 => (o1 q (Nat.lt_of_lt_of_le e2 h4.1)).trans (h4.2.1 q e2 e3), h4.2.2⟩ (h5.le g2) ⟨⟨_, g3, rfl⟩, h6.le g2⟩
  rcases g4 c' i' a' h' with z | z
  · rw [z]; exact hA _ h4.1
  · exact h3 _ _ _ h98 z
theorem m_j_newa (hx : p.tables.exec = Jvm.exec) (hb : cd.code = cc) (hown : s.vm.findClass own = some m.cls) (HB : ∀ w ∈ B, w.before args s = true) (hK : va_K D m_cls ty s) (hty : ty.map (fun q => q.2) = m_aty) (hA : ∀ q, s.heap.size ≤ q → A q) {atype : ArrayType} {j : Nat} {x : Int32} (hj : j < 3) (ht : m_aty[j]? = some (newarray.typeOf atype)) (harr : (Cond.arrayClass (newarray.typeOf atype)).before args s = true) (hn : ¬ x < 0) (hbytes : x.toNatClampNeg * componentBytes (newarray.typeOf atype) ≤ 536870912) (hcells : k + 1 ≤ R.cells) (hslots : n + x.toNatClampNeg ≤ R.slots) (hd : decode cc pc = .ok (.newarray atype, 2)) (K : m_J p l e R s m args below meth cd Qt A ρ0 (m_X D ty s xs) (pc + 2) L (.inr (.inr (some (j + 13, σ.1 (j + 13)))) :: st) (m_nu σ (j + 13) x.toNatClampNeg) (k + 1) (n + x.toNatClampNeg)) : m_J p l e R s m args below meth cd Qt A ρ0 (m_X D ty s xs) pc L (.inl x :: st) σ k n := by
  intro ρ H locs ls sw h1 h2 h3 h4 h5 h6
  obtain ⟨_, rfl, h7⟩ := m_sr_i h6
  refine va_newaK hx hb harr rfl hd rfl hn rfl hbytes hcells hslots rfl fun H1 cA e1 z1 o1 hAr hNm => ?_
  have hl : j < ty.length := by
    have : (ty.map (fun q => q.2)).length = 9 := by rw [hty]; rfl
    rw [List.length_map] at this; omega
  have hq : ty[j]? = some ty[j] := List.getElem?_eq_getElem hl
  have he : ty[j].2 = newarray.typeOf atype := m_tyAt hty hq ht
  have hra := (hK.2 j _ hq).2
  rw [he] at hra
  have hca : cA = ty[j].1 := by
    have h9 : s.vm.findClass ("[" ++ (newarray.typeOf atype).toString) = some ty[j].1 := by
      cases atype <;> exact hra
    exact Option.some.inj (hNm.symm.trans h9)
  subst hca
  have hok : m_okt (newarray.typeOf atype) = true := by
    have : j = 0 ∨ j = 1 ∨ j = 2 := by omega
    rcases this with rfl | rfl | rfl <;> (rw [← Option.some.inj ht]; rfl)
  obtain ⟨g1, g2, g3, g4⟩ := h2.nu (c := j + 13) (n := x.toNatClampNeg) (by omega) (Nat.le_refl _) o1 (Or.inr ⟨j, ty[j], rfl, hq, fun _ => defaultValue (newarray.typeOf atype), by rw [m_nu_lenN]; exact e1, fun k' hk' => by rw [m_nu_new, m_ty_arr ht]; exact m_zero_vr hok⟩)
  refine K _ H1 locs ls _ (h1.tr g2) g1 (fun c' i' a' h98 h' => ?_) ⟨Nat.le_trans h4.1 (by omega), fun q e2 e3 => (o1 q (Nat.lt_of_lt_of_le e2 h4.1)).trans (h4.2.1 q e2 e3), h4.2.2⟩ (h5.le g2) ⟨⟨_, g3, rfl⟩, h7.le g2⟩
  rcases g4 c' i' a' h' with z | z
  · rw [z]; exact hA _ h4.1
  · exact h3 _ _ _ h98 z
end MH
end
section
/-! contracts; returns, calls, throws -/
/-- words that a change of the tables keeps, but by laws of their own -/
def m_oddk (w : Cond) : Bool := match w with
  | .castable _ _ => true
  | .declares _ => true
  | .methodLinkNest _ _ _ _ => true
  | .arrayOver (.object _) => true
  | .arrayOver (.array _) => true
  | _ => false
def m_ODD : List Cond := lw_tbl.filter m_oddk
theorem m_AOA_moved {t : FieldType} {u U : State} (hvm : u.vm.Alike U.vm) (h : va_Nw (.arrayOver (.array t)) u) : va_Nw (.arrayOver (.array t)) U := by
  obtain ⟨comp, c, k, h1, h2, h3, h4, h5⟩ := arrayOverA_spec h
  obtain ⟨k', hk', he⟩ := hvm.2.2 _ _ h3
  have hi : (U.vm.classes.findIdx? fun (x : Class) => match x.kind with | .array component _ => component == comp | _ => false) = some c := by
    rw [hvm.findIdx?_eq _ (fun _ => rfl)]; exact h2
  have hkind : k'.kind = .array comp (.array t) := by rw [he]; exact h4
  have f1 : U.vm.findClass (FieldType.array t).toString = some comp := by rw [hvm.findClass]; exact h1
  have f2 : U.vm.findClass ("[" ++ (FieldType.array t).toString) = some c := by rw [hvm.findClass]; exact h5
  show (Cond.arrayOver (.array t)).before #[] U = true
  unfold Cond.before Cond.holds
  simp only [Cond.value]
  rw [f1, Option.bind_some]
  refine (congrArg (fun o : Option Nat => (o.bind (fun c => (U.vm.classes[c]?).map fun (k : Class) => match k.kind with | .array _ ty => decide (ty = FieldType.array t) && decide (U.vm.findClass ("[" ++ (FieldType.array t).toString) = some c) | _ => false) == some true)) hi).trans ?_
  simp [hk', hkind, f2]
theorem m_odd_moved {w : Cond} (hw : m_oddk w = true) {s U : State} (hW : s.WarmedH U.vm) (h : va_Nw w s) : va_Nw w U := by
  cases w with
  | castable a b => exact va_Nw.warmC hW h
  | declares a => exact va_Nw.warmD hW h
  | methodLinkNest a b c d => exact va_Nw.warmM hW h
  | arrayOver t =>
    cases t with
    | object C => exact va_AO.moved hW.alike h
    | array t => exact m_AOA_moved hW.alike h
    | _ => cases hw
  | _ => cases hw
def m_strs : List (String × Nat × String) := [(RX11, 303, "no such member, instrument or order"), (RX11, 307, "an argument is out of range"), (RX11, 312, "this is not possible now"), (RX11, 99, "no such order"), (RX11, 140, "no such instrument"), (RX11, 172, "no such trade"), (RX11, 188, "no such member or instrument"), (RX11, 196, "no such member"), (RX11, 235, "no such reader")]
/-- what a method takes from the tables and the library's own cells -/
def m_En (D : va_G) (ty : List (ClassId × FieldType)) (A : Nat → Prop) (U : State) : Prop :=
  va_K D m_cls ty U ∧ ty.map (fun q => q.2) = m_aty ∧ (∀ w ∈ m_ODD, va_Nw w U) ∧ vx_Zq Bundle.tN "UNASSIGNED_STACK" Bundle.steD A U U.heap ∧ vx_Zq Bundle.tN "SUPPRESSED_SENTINEL" Bundle.listD A U U.heap ∧ ∀ q ∈ m_strs, ∃ a, vk_R q.1 q.2.1 q.2.2 a U
theorem m_En.moved {D : va_G} {ty : List (ClassId × FieldType)} {A : Nat → Prop} {s U : State} (h : m_En D ty A s) (hW : s.WarmedH U.vm) (hq : ∀ a, a < s.heap.size → ¬ A a → U.heap[a]? = s.heap[a]?) : m_En D ty A U := by
  obtain ⟨h1, h2, h3, h4, h5, h6⟩ := h
  exact ⟨h1.moved hW.alike, h2, fun w hw => m_odd_moved (List.mem_filter.mp hw).2 hW (h3 w hw), (h4.moved hW.alike).kept hq, (h5.moved hW.alike).kept hq, fun q hq => by obtain ⟨a, ha⟩ := h6 q hq; exact ⟨a, ha.warm hW⟩⟩
theorem m_X.moved {D : va_G} {ty : List (ClassId × FieldType)} {s U : State} {xs : Option (Nat × (Nat → Int32))} {ρ : Nat → Nat → Option Nat} {σ : mS} {H : Heap} (hvm : s.vm.Alike U.vm) (h : m_X D ty s xs ρ σ H) : m_X D ty U xs ρ σ H :=
  ⟨h.1, h.2.1, h.2.2.1, fun c i a ha => (h.2.2.2 c i a ha).imp (fun z => by obtain ⟨h1, q, h2, h3⟩ := z; exact ⟨h1, q, h2, h3.moved hvm⟩) (fun z => z)⟩
def m_ov (ρ : Nat → Nat → Option Nat) (v : Option mV) (w : Option Value) : Prop := match v, w with
  | none, none => True
  | some x, some y => m_vr ρ x y
  | _, _ => False
/-- the exceptions' classes -/
def m_xn (x : Nat) : String := match x with
  | 0 => "java/lang/IndexOutOfBoundsException"
  | 1 => "java/lang/IllegalArgumentException"
  | _ => "java/lang/IllegalStateException"
def m_Pc (D : va_G) (ty : List (ClassId × FieldType)) (xs : Option (Nat × (Nat → Int32))) (A : Nat → Prop) (ρ : Nat → Nat → Option Nat) (σ : mS) (avs : List mV) : Array Value → State → Prop := fun av U =>
  (∃ ws : List Value, av = ws.toArray ∧ m_sr ρ avs ws) ∧ m_X D ty U xs ρ σ U.heap ∧ m_En D ty A U ∧ (∀ c i a, c ≠ 98 → ρ c i = some a → A a) ∧ ∀ q, U.heap.size ≤ q → A q
def m_Qc (D : va_G) (ty : List (ClassId × FieldType)) (xs : Option (Nat × (Nat → Int32))) (A : Nat → Prop) (ρ : Nat → Nat → Option Nat) (Q : mX → mS → Prop) : Array Value → State → Outcome → State → Prop := fun _ st o t =>
  (∃ (ρ' : Nat → Nat → Option Nat) (σ' : mS) (v : Option mV) (w : Option Value), o = .returned w ∧ m_ov ρ' v w ∧ m_le ρ ρ' ∧ m_X D ty t xs ρ' σ' t.heap ∧ (∀ c i a, c ≠ 98 → ρ' c i = some a → A a) ∧ Q (.inl v) σ') ∧ va_F A st t
def m_XC (D : va_G) (ty : List (ClassId × FieldType)) (xs : Option (Nat × (Nat → Int32))) (A : Nat → Prop) (ρ : Nat → Nat → Option Nat) (Q : mX → mS → Prop) : String → State → State → Prop := fun E st t =>
  (∃ (ρ' : Nat → Nat → Option Nat) (σ' : mS) (x : Nat), E = m_xn x ∧ m_le ρ ρ' ∧ m_X D ty t xs ρ' σ' t.heap ∧ (∀ c i a, c ≠ 98 → ρ' c i = some a → A a) ∧ Q (.inr x) σ') ∧ va_F A st t
/-- the contract of a method at these arguments, from this heap of the model: it ends so that Q holds -/
def m_Con (l : Launch) (y : MethodName) (ws : List Cond) (rm : Room) (mc ms : Nat) (avs : List mV) (σ : mS) (Q : mX → mS → Prop) : Prop :=
  ∀ (D : va_G) (ty : List (ClassId × FieldType)) (xs : Option (Nat × (Nat → Int32))) (A : Nat → Prop) (ρ : Nat → Nat → Option Nat), vx_Met l y ws rm (m_Pc D ty xs A ρ σ avs) (m_Qc D ty xs A ρ Q) (m_XC D ty xs A ρ Q) mc ms A
theorem m_blind {D : va_G} {ty : List (ClassId × FieldType)} {xs : Option (Nat × (Nat → Int32))} {A : Nat → Prop} {ρ : Nat → Nat → Option Nat} {σ : mS} {avs : List mV} : FrameBlind (m_Pc D ty xs A ρ σ avs) := by
  intro a U g mk h
  obtain ⟨h1, h2, h3, h4, h5⟩ := h
  have hW : U.WarmedH (U.calling g mk a).vm := State.WarmedH.refl U
  exact ⟨h1, h2.moved hW.alike, h3.moved hW (fun _ _ _ => rfl), h4, h5⟩
theorem m_sr_app {ρ : Nat → Nat → Option Nat} : ∀ {xs ys : List mV} {sw : List Value}, m_sr ρ (xs ++ ys) sw → ∃ a b, sw = a ++ b ∧ m_sr ρ xs a ∧ m_sr ρ ys b
  | [], _, sw, h => ⟨[], sw, rfl, trivial, h⟩
  | _ :: _, _, [], h => h.elim
  | _ :: _, _, w :: _, ⟨h1, h2⟩ => by
    obtain ⟨a, b, rfl, h3, h4⟩ := m_sr_app h2
    exact ⟨w :: a, b, rfl, ⟨h1, h3⟩, h4⟩
theorem m_sr_cat {ρ : Nat → Nat → Option Nat} : ∀ {xs ys : List mV} {a b : List Value}, m_sr ρ xs a → m_sr ρ ys b → m_sr ρ (xs ++ ys) (a ++ b)
  | [], _, [], _, _, h => h
  | [], _, _ :: _, _, h, _ => h.elim
  | _ :: _, _, [], _, h, _ => h.elim
  | _ :: _, _, _ :: _, _, ⟨h1, h2⟩, h => ⟨h1, m_sr_cat h2 h⟩
theorem m_sr_rev {ρ : Nat → Nat → Option Nat} : ∀ {xs : List mV} {a : List Value}, m_sr ρ xs a → m_sr ρ xs.reverse a.reverse
  | [], [], _ => trivial
  | [], _ :: _, h => h.elim
  | _ :: _, [], h => h.elim
  | x :: xs, w :: ws, ⟨h1, h2⟩ => by
    rw [List.reverse_cons, List.reverse_cons]
    exact m_sr_cat (m_sr_rev h2) ⟨h1, trivial⟩
theorem m_sr_len {ρ : Nat → Nat → Option Nat} : ∀ {xs : List mV} {a : List Value}, m_sr ρ xs a → a.length = xs.length
  | [], [], _ => rfl
  | [], _ :: _, h => h.elim
  | _ :: _, [], h => h.elim
  | _ :: _, _ :: _, ⟨_, h2⟩ => congrArg (· + 1) (m_sr_len h2)
/-- words on the stack -/
def m_cat (x : mV) : Nat := match x with
  | .inr (.inl _) => 2
  | _ => 1
theorem m_vr_catN {ρ : Nat → Nat → Option Nat} {x : mV} {w : Value} (h : m_vr ρ x w) : w.category = m_cat x := by
  rcases x with a | a | _ | q
  · cases (show w = .int a from h); rfl
  · cases (show w = .long a from h); rfl
  · cases (show w = .null from h); rfl
  · obtain ⟨a, -, h2⟩ := h
    cases h2; rfl
theorem m_sr_sum {ρ : Nat → Nat → Option Nat} : ∀ {xs : List mV} {a : List Value}, m_sr ρ xs a → (a.map fun v => v.category).sum = (xs.map m_cat).sum
  | [], [], _ => rfl
  | [], _ :: _, h => h.elim
  | _ :: _, [], h => h.elim
  | _ :: _, _ :: _, ⟨h1, h2⟩ => by
    rw [List.map_cons, List.map_cons, List.sum_cons, List.sum_cons, m_sr_sum h2, m_vr_catN h1]
section MC
variable {p : Program} {l : Launch} {e : Env} {R : Room} {s : State} {m : MethodId} {args : Array Value} {below : List Frame} {meth : Method} {cd : Code} {Qt : State → Prop} {A : Nat → Prop} {ρ0 : Nat → Nat → Option Nat} {cc : ByteArray} {own : String} {D : va_G} {ty : List (ClassId × FieldType)} {xs : Option (Nat × (Nat → Int32))} {B : List Cond}
variable {pc k n mc ms : Nat} {L : List (Option mV)} {st : List mV} {σ : mS} {Q : mX → mS → Prop}
/-- an exception of the kind x lies over the frame at pc -/
def m_JX (p : Program) (l : Launch) (e : Env) (R : Room) (s : State) (m : MethodId) (args : Array Value) (below : List Frame) (meth : Method) (cd : Code) (Qt : State → Prop) (A : Nat → Prop) (ρ0 : Nat → Nat → Option Nat) (X : (Nat → Nat → Option Nat) → mS → Heap → Prop)
    (pc : Nat) (L : List (Option mV)) (σ : mS) (k n x : Nat) : Prop :=
  ∀ (ρ : Nat → Nat → Option Nat) (H : Heap) (locs : List Loc) (ls : Array Slot) (sw : List Value) (q : Nat) (ce : Cell), m_le ρ0 ρ → X ρ σ H → (∀ c i a, c ≠ 98 → ρ c i = some a → A a) → va_S A s.heap H locs → m_lr ρ ls L → H[q]? = some ce → ce.vm = .none → s.vm.findClass (m_xn x) = some ce.cls →
    vx_W p l e R s m args below meth cd H locs k n Qt (F0 m pc ls sw) q
theorem m_jx_out (hout : ∀ x ∈ cd.exceptionTable.toList, covers x pc = false) (hlocks : meth.locks = false) {x : Nat} (hk : k ≤ mc) (hn : n ≤ ms) (hQ : Q (.inr x) σ) :
    m_JX p l e R s m args below meth cd (vx_MQ below (m_Qc D ty xs A ρ0 Q) (m_XC D ty xs A ρ0 Q) args s mc ms A) A ρ0 (m_X D ty s xs) pc L σ k n x := by
  intro ρ H locs ls sw q ce h1 h2 h3 h4 h5 h6 h7 h8
  exact vx_out (E := m_xn x) hout hlocks h6 h7 h8 (fun t ht hv => ⟨⟨ρ, σ, x, rfl, h1, by rw [ht]; exact h2.moved hv, h3, hQ⟩, h4.F ht⟩) h4.2.2 hk hn
theorem m_j_zret (hx : p.tables.exec = Jvm.exec) (hb : cd.code = cc) {t : FieldType} {v : Int32} (hr : meth.sig.returnType = some t) (hv : narrow t (.int v) = .int v) (hlocks : meth.locks = false) (hd : decode cc pc = .ok (.ireturn, 1)) (hk : k ≤ mc) (hn : n ≤ ms) (hQ : Q (.inl (some (.inl v))) σ) :
    m_J p l e R s m args below meth cd (vx_MQ below (m_Qc D ty xs A ρ0 Q) (m_XC D ty xs A ρ0 Q) args s mc ms A) A ρ0 (m_X D ty s xs) pc L [.inl v] σ k n := by
  intro ρ H locs ls sw h1 h2 h3 h4 h5 h6
  obtain ⟨s', rfl, h7⟩ := m_sr_i h6
  cases s' with
  | cons _ _ => exact h7.elim
  | nil => exact vx_ret (W.widen hk hn (W.zret hx hb hr hv (fun t ht hw => ⟨⟨ρ, σ, some (.inl v), _, rfl, rfl, h1, by rw [ht]; exact h2.moved hw.alike, h3, hQ⟩, h4.F ht⟩) h4.2.2 hd hlocks))
theorem m_j_lret (hx : p.tables.exec = Jvm.exec) (hb : cd.code = cc) {v : Int64} (hr : meth.sig.returnType = some .long) (hlocks : meth.locks = false) (hd : decode cc pc = .ok (.lreturn, 1)) (hk : k ≤ mc) (hn : n ≤ ms) (hQ : Q (.inl (some (.inr (.inl v)))) σ) :
    m_J p l e R s m args below meth cd (vx_MQ below (m_Qc D ty xs A ρ0 Q) (m_XC D ty xs A ρ0 Q) args s mc ms A) A ρ0 (m_X D ty s xs) pc L [.inr (.inl v)] σ k n := by
  intro ρ H locs ls sw h1 h2 h3 h4 h5 h6
  obtain ⟨s', rfl, h7⟩ := m_sr_l h6
  cases s' with
  | cons _ _ => exact h7.elim
  | nil => exact vx_ret (W.widen hk hn (W.lret hx hb hr (fun t ht hw => ⟨⟨ρ, σ, some (.inr (.inl v)), _, rfl, rfl, h1, by rw [ht]; exact h2.moved hw.alike, h3, hQ⟩, h4.F ht⟩) h4.2.2 hd hlocks))
theorem m_j_vret (hx : p.tables.exec = Jvm.exec) (hb : cd.code = cc) (hr : meth.sig.returnType = none) (hlocks : meth.locks = false) (hd : decode cc pc = .ok (.return_, 1)) (hk : k ≤ mc) (hn : n ≤ ms) (hQ : Q (.inl none) σ) :
    m_J p l e R s m args below meth cd (vx_MQ below (m_Qc D ty xs A ρ0 Q) (m_XC D ty xs A ρ0 Q) args s mc ms A) A ρ0 (m_X D ty s xs) pc L [] σ k n := by
  intro ρ H locs ls sw h1 h2 h3 h4 h5 h6
  cases sw with
  | cons _ _ => exact h6.elim
  | nil => exact vx_ret (W.widen hk hn (W.vret hx hb hr (fun t ht hw => ⟨⟨ρ, σ, none, _, rfl, trivial, h1, by rw [ht]; exact h2.moved hw.alike, h3, hQ⟩, h4.F ht⟩) h4.2.2 hd hlocks))
theorem m_j_aret (hx : p.tables.exec = Jvm.exec) (hb : cd.code = cc) {rt : FieldType} {v : mR} (hr : meth.sig.returnType = some rt) (hrt : (∃ n, rt = .object n) ∨ ∃ t, rt = .array t) (hlocks : meth.locks = false) (hd : decode cc pc = .ok (.areturn, 1)) (hk : k ≤ mc) (hn : n ≤ ms) (hQ : Q (.inl (some (.inr (.inr v)))) σ) :
    m_J p l e R s m args below meth cd (vx_MQ below (m_Qc D ty xs A ρ0 Q) (m_XC D ty xs A ρ0 Q) args s mc ms A) A ρ0 (m_X D ty s xs) pc L [.inr (.inr v)] σ k n := by
  intro ρ H locs ls sw h1 h2 h3 h4 h5 h6
  obtain ⟨r, s', rfl, hr', h7⟩ := m_sr_r h6
  cases s' with
  | cons _ _ => exact h7.elim
  | nil => exact vx_ret (W.widen hk hn (W.aret hx hb hr hrt (va_rf_or r) (fun t ht hw => ⟨⟨ρ, σ, some (.inr (.inr v)), _, rfl, m_rr_v hr', h1, by rw [ht]; exact h2.moved hw.alike, h3, hQ⟩, h4.F ht⟩) h4.2.2 hd hlocks))
/-- behind a call -/
theorem m_j_run {H : Heap} {locs : List Loc} {ls : Array Slot} {sw0 sw' : List Value} {av : Array Value} {rest : List mV} {ρ : Nat → Nat → Option Nat} {Q1 : mX → mS → Prop} (hr : vx_Run p l e R s m args below meth cd H locs k n mc ms (F0 m pc ls sw0) sw' (m_Qc D ty xs A ρ Q1 av) (m_XC D ty xs A ρ Q1) A)
    (h1 : m_le ρ0 ρ) (h4 : va_S A s.heap H locs) (h5 : m_lr ρ ls L) (h7 : m_sr ρ rest sw')
    (hret : ∀ (v : Option mV) (σ' : mS), Q1 (.inl v) σ' → m_J p l e R s m args below meth cd Qt A ρ0 (m_X D ty s xs) (pc + 3) L (v.toList ++ rest) σ' (k + mc) (n + ms))
    (hthr : ∀ (x : Nat) (σ' : mS), Q1 (.inr x) σ' → m_JX p l e R s m args below meth cd Qt A ρ0 (m_X D ty s xs) pc L σ' (k + mc) (n + ms) x) :
    W p l e R s m args below meth cd H locs k n Qt (F0 m pc ls sw0) := by
  intro T hT X
  rcases hr T hT X with ⟨v, st₀, t, T', L1, h0, X', hL, e1, e2, ⟨⟨ρ', σ', v', w, hv, hov, hle, hX, hA', hq⟩, hF⟩, st⟩ | ⟨q, st₀, t, T', L1, E, ce, h0, X', hL, e1, e2, ⟨⟨ρ', σ', x, hE, hle, hX, hA', hq⟩, hF⟩, hce, hcv, hcl, st⟩
  · cases hv
    obtain ⟨k1, k2, k3⟩ := vx_keep h0 e1 h4 (fun _ _ z => z) (fun _ z => z) hL hF
    have hal : t.vm.Alike s.vm := by rw [← e2]; exact X'.warmed.alike.symm
    have hst : m_sr ρ' (v'.toList ++ rest) (v.toList ++ sw') := by
      cases v' with
      | none => cases v with
        | none => exact h7.le hle
        | some _ => exact hov.elim
      | some _ => cases v with
        | none => exact hov.elim
        | some _ => exact ⟨hov, h7.le hle⟩
    obtain ⟨t2, a1, b1⟩ := hret v' σ' hq ρ' T'.heap (locs ++ L1) ls _ (h1.tr hle) (by rw [e1]; exact hX.moved hal) hA' k3 (h5.le hle) hst T' rfl X'
    exact ⟨t2, st t2 a1, b1⟩
  · obtain ⟨k1, k2, k3⟩ := vx_keep h0 e1 h4 (fun _ _ z => z) (fun _ z => z) hL hF
    have hal : t.vm.Alike s.vm := by rw [← e2]; exact X'.warmed.alike.symm
    subst hE
    obtain ⟨t2, a1, b1⟩ := hthr x σ' hq ρ' T'.heap (locs ++ L1) ls sw' q ce (h1.tr hle) (by rw [e1]; exact hX.moved hal) hA' k3 (h5.le hle) (by rw [e1]; exact hce) hcv hcl T' rfl X'
    exact ⟨t2, st.trans a1, b1⟩
end MC
end
section
/-! a method's context; calls; throws-/
theorem m_BIG_good : ∀ w ∈ m_BIG, (w.onTables && w.keeps) = true ∨ ∃ ty, w = .arrayClass ty := fun w hw => good_of_word (List.mem_filter.mp hw).2
/-- the words of every method: its own code first, then all that the tables have -/
def m_W (y : MethodName) (bytes : ByteArray) (mL : Nat) (rt : Option FieldType) : List Cond := Cond.code y bytes mL rt :: m_BIG
theorem m_W_good {y : MethodName} {bytes : ByteArray} {mL : Nat} {rt : Option FieldType} (h : Cond.code y bytes mL rt ∈ m_BIG) : GoodIn m_BIG (m_W y bytes mL rt) := by
  intro w hw
  rcases List.mem_cons.mp hw with rfl | hw
  · exact ⟨h, m_BIG_good _ h⟩
  · exact ⟨hw, m_BIG_good _ hw⟩
/-- what holds throughout a method's body -/
def m_C (p : Program) (l : Launch) (s : State) (m : MethodId) (args : Array Value) (meth : Method) (cd : Code) (cc : ByteArray) (own : String) (nL : Nat) (D : va_G) (ty : List (ClassId × FieldType)) (A : Nat → Prop) : Prop :=
  p.tables.exec = Jvm.exec ∧ cd.code = cc ∧ s.vm.findClass own = some m.cls ∧ (∀ w ∈ m_BIG, w.before args s = true) ∧ m_En D ty A s ∧ (∀ q, s.heap.size ≤ q → A q) ∧ cd.maxLocals = nL ∧ meth.locks = false ∧ l.stackTraces = false
def m_xnames : List String := ["java/lang/RuntimeException", "java/lang/Exception"]
/-- pool entries of class NettingHall: the class, and its constructor -/
def m_xk (x : Nat) : Nat × Nat := match x with
  | 0 => (97, 101)
  | 1 => (305, 309)
  | _ => (310, 314)
def m_xwB (x : Nat) : Bool := (Cond.classLink RX11 (m_xk x).1 (m_xn x) :: Cond.initialized (m_xn x) :: vx_atS RX11 (m_xk x).2 (m_xn x) m_xnames).all (fun w => lw_tbl.contains w && (goodWord w || m_oddk w) && vx_ot w)
theorem m_xwB_0 : m_xwB 0 = true := by decide +kernel
theorem m_xwB_1 : m_xwB 1 = true := by decide +kernel
theorem m_xwB_2 : m_xwB 2 = true := by decide +kernel
theorem m_xw {x : Nat} (hx : x < 3) : m_xwB x = true := by
  have : x = 0 ∨ x = 1 ∨ x = 2 := by omega
  rcases this with rfl | rfl | rfl
  · exact m_xwB_0
  · exact m_xwB_1
  · exact m_xwB_2
end
section
section MK
variable {p : Program} {l : Launch} {e : Env} {R : Room} {s : State} {m : MethodId} {args : Array Value} {below : List Frame} {meth : Method} {cd : Code} {Qt : State → Prop} {A : Nat → Prop} {ρ0 : Nat → Nat → Option Nat} {cc : ByteArray} {own : String} {D : va_G} {ty : List (ClassId × FieldType)} {xs : Option (Nat × (Nat → Int32))} {nL : Nat}
variable {pc k n mc ms : Nat} {L : List (Option mV)} {st : List mV} {σ : mS} {Q : mX → mS → Prop}
theorem m_xword (HB : ∀ w ∈ m_BIG, w.before args s = true) (HE : ∀ w ∈ m_ODD, va_Nw w s) {w : Cond} (h1 : w ∈ lw_tbl) (h2 : (goodWord w || m_oddk w) = true) : w.before args s = true := by
  rcases (Bool.or_eq_true _ _).mp h2 with h | h
  · exact HB w (List.mem_filter.mpr ⟨h1, h⟩)
  · have h9 := HE w (List.mem_filter.mpr ⟨h1, h⟩)
    cases w with
    | arrayOver t => exact h9
    | castable a b => exact va_Nw.use rfl h9
    | declares a => exact va_Nw.use rfl h9
    | methodLinkNest a b c d => exact va_Nw.use rfl h9
    | _ => cases h
theorem m_X.keptH {ρ : Nat → Nat → Option Nat} {H H' : Heap} (h : m_X D ty s xs ρ σ H) (hq : ∀ q, q < H.size → H'[q]? = H[q]?) : m_X D ty s xs ρ σ H' :=
  ⟨h.1, h.2.1, h.2.2.1, fun c i a ha => (h.2.2.2 c i a ha).imp (fun z => by obtain ⟨h1, q, h2, h3⟩ := z; exact ⟨h1, q, h2, h3.kept (hq _ (h.lt ha))⟩) (fun z => ⟨z.1, z.2.to m_le.rf (fun _ => rfl) rfl (hq _ (h.lt ha))⟩)⟩

theorem m_j_throw (C : m_C p l s m args meth cd cc RX11 nL D ty A) (hex : ∀ x ∈ cd.exceptionTable.toList, False) {x is : Nat} {text : String} (hx3 : x < 3) (hstr : (RX11, is, text) ∈ m_strs) (hL : L.length = nL) (d0 : decode cc pc = .ok (.new (m_xk x).1, 3)) (d3 : decode cc (pc + 3) = .ok (.dup, 1)) (d4 : decode cc (pc + 4) = .ok (.ldc is, 2)) (d6 : decode cc (pc + 6) = .ok (.invokespecial (m_xk x).2, 3)) (d9 : decode cc (pc + 9) = .ok (.athrow, 1))
    (hRf : 5 < R.frames) (hRl : (st.map m_cat).sum + 82 ≤ R.locals) (hRc : k + 1 ≤ R.cells) (hRs : n + 6 ≤ R.slots) (hk : k + 1 ≤ mc) (hn : n + 6 ≤ ms) (hQ : Q (.inr x) σ) :
    m_J p l e R s m args below meth cd (vx_MQ below (m_Qc D ty xs A ρ0 Q) (m_XC D ty xs A ρ0 Q) args s mc ms A) A ρ0 (m_X D ty s xs) pc L st σ k n := by
  obtain ⟨hx, hb, hown, HB, HE, hA, hml, hlk, hl⟩ := C
  intro ρ H locs ls sw h1 h2 h3 h4 h5 h6
  have hw := List.all_eq_true.mp (m_xw hx3)
  have hin : ∀ w, w ∈ (Cond.classLink RX11 (m_xk x).1 (m_xn x) :: Cond.initialized (m_xn x) :: vx_atS RX11 (m_xk x).2 (m_xn x) m_xnames) → w.before args s = true ∧ vx_ot w = true := by
    intro w h
    have h9 := hw w h
    simp only [Bool.and_eq_true] at h9
    exact ⟨m_xword HB HE.2.2.1 (List.contains_iff_mem.mp h9.1.1) h9.1.2, h9.2⟩
  obtain ⟨sa, hsa⟩ := HE.2.2.2.2.2 _ hstr
  have hfit : Bundle.fit (m_xn x) = true := by
    have : x = 0 ∨ x = 1 ∨ x = 2 := by omega
    rcases this with rfl | rfl | rfl <;> decide +kernel
  refine vx_throwS (names := m_xnames) hx hb hl hown hfit (by decide +kernel) (hin _ List.mem_cons_self).1 (hin _ (List.mem_cons_of_mem _ List.mem_cons_self)).1 hsa (fun w h => (hin w (List.mem_cons_of_mem _ (List.mem_cons_of_mem _ h))).1) (fun w h => (hin w h).2) HE.2.2.2.1 HE.2.2.2.2.1 h4 (by rw [h5.1, hL, hml]) d0 d3 d4 d6 d9 (fun x h => (hex x h).elim) hRf (by rw [m_sr_sum h6]; exact hRl) hRc hRs hlk (fun t hv hz hq => ⟨⟨ρ, σ, x, rfl, h1, (h2.keptH hq).moved hv, h3, hQ⟩, Nat.le_trans h4.1 hz, fun q e1 e2 => (hq q (Nat.lt_of_lt_of_le e1 h4.1)).trans (h4.2.1 q e1 e2)⟩) h4.2.2 hk hn
theorem m_j_throwW (C : m_C p l s m args meth cd cc RX11 nL D ty A) (hex : ∀ x ∈ cd.exceptionTable.toList, False) {x is : Nat} {text : String} (hx3 : x < 3) (hstr : (RX11, is, text) ∈ m_strs) (hL : L.length = nL) (d0 : decode cc pc = .ok (.new (m_xk x).1, 3)) (d3 : decode cc (pc + 3) = .ok (.dup, 1)) (d4 : decode cc (pc + 4) = .ok (.ldc_w is, 3)) (d6 : decode cc (pc + 7) = .ok (.invokespecial (m_xk x).2, 3)) (d9 : decode cc (pc + 10) = .ok (.athrow, 1))
    (hRf : 5 < R.frames) (hRl : (st.map m_cat).sum + 82 ≤ R.locals) (hRc : k + 1 ≤ R.cells) (hRs : n + 6 ≤ R.slots) (hk : k + 1 ≤ mc) (hn : n + 6 ≤ ms) (hQ : Q (.inr x) σ) :
    m_J p l e R s m args below meth cd (vx_MQ below (m_Qc D ty xs A ρ0 Q) (m_XC D ty xs A ρ0 Q) args s mc ms A) A ρ0 (m_X D ty s xs) pc L st σ k n := by
  obtain ⟨hx, hb, hown, HB, HE, hA, hml, hlk, hl⟩ := C
  intro ρ H locs ls sw h1 h2 h3 h4 h5 h6
  have hw := List.all_eq_true.mp (m_xw hx3)
  have hin : ∀ w, w ∈ (Cond.classLink RX11 (m_xk x).1 (m_xn x) :: Cond.initialized (m_xn x) :: vx_atS RX11 (m_xk x).2 (m_xn x) m_xnames) → w.before args s = true ∧ vx_ot w = true := by
    intro w h
    have h9 := hw w h
    simp only [Bool.and_eq_true] at h9
    exact ⟨m_xword HB HE.2.2.1 (List.contains_iff_mem.mp h9.1.1) h9.1.2, h9.2⟩
  obtain ⟨sa, hsa⟩ := HE.2.2.2.2.2 _ hstr
  have hfit : Bundle.fit (m_xn x) = true := by
    have : x = 0 ∨ x = 1 ∨ x = 2 := by omega
    rcases this with rfl | rfl | rfl <;> decide +kernel
  refine vx_throwSW (names := m_xnames) hx hb hl hown hfit (by decide +kernel) (hin _ List.mem_cons_self).1 (hin _ (List.mem_cons_of_mem _ List.mem_cons_self)).1 hsa (fun w h => (hin w (List.mem_cons_of_mem _ (List.mem_cons_of_mem _ h))).1) (fun w h => (hin w h).2) HE.2.2.2.1 HE.2.2.2.2.1 h4 (by rw [h5.1, hL, hml]) d0 d3 d4 d6 d9 (fun x h => (hex x h).elim) hRf (by rw [m_sr_sum h6]; exact hRl) hRc hRs hlk (fun t hv hz hq => ⟨⟨ρ, σ, x, rfl, h1, (h2.keptH hq).moved hv, h3, hQ⟩, Nat.le_trans h4.1 hz, fun q e1 e2 => (hq q (Nat.lt_of_lt_of_le e1 h4.1)).trans (h4.2.1 q e1 e2)⟩) h4.2.2 hk hn
theorem m_j_callV (C : m_C p l s m args meth cd cc own nL D ty A) {y : MethodName} {bytes : ByteArray} {mL mc1 ms1 index : Nat} {rt : Option FieldType} {rm : Room} {as : List mV} {Q1 : mX → mS → Prop} {c i : Nat} {r : vw_C} (hc : m_cls[c]? = some r) (hcon : m_Con l y (m_W y bytes mL rt) rm mc1 ms1 (.inr (.inr (some (c, i))) :: as) σ Q1) (hl : Cond.methodLink own index y ∈ m_BIG) (hinst : Cond.instanceMethod y ∈ m_BIG) (hsel : Cond.selects r.1 y y ∈ m_BIG)
    (hcode : Cond.code y bytes mL rt ∈ m_BIG) (hini : Cond.initialized y.cls ∈ m_BIG) (hd1 : y.cls ≠ "java/lang/invoke/MethodHandle" ∧ y.cls ≠ "java/lang/invoke/VarHandle" ∧ (parseMethodDescriptor y.desc).map (fun d => d.parameters.length) = some as.length)
    (hrm : rm.cells = mc1 ∧ rm.slots = ms1 ∧ rm.frames + 1 ≤ R.frames ∧ 8 + (mL + 11) + rm.locals ≤ R.locals) (hL : L.length = nL) (hW : (st.map m_cat).sum ≤ 8) (hcs : k + mc1 ≤ R.cells ∧ n + ms1 ≤ R.slots)
    (hret : ∀ (v : Option mV) (σ' : mS), Q1 (.inl v) σ' → m_J p l e R s m args below meth cd Qt A ρ0 (m_X D ty s xs) (pc + 3) L (v.toList ++ st) σ' (k + mc1) (n + ms1))
    (hthr : ∀ (x : Nat) (σ' : mS), Q1 (.inr x) σ' → m_JX p l e R s m args below meth cd Qt A ρ0 (m_X D ty s xs) pc L σ' (k + mc1) (n + ms1) x) (hd : decode cc pc = .ok (.invokevirtual index, 3)) :
    m_J p l e R s m args below meth cd Qt A ρ0 (m_X D ty s xs) pc L (as.reverse ++ .inr (.inr (some (c, i))) :: st) σ k n := by
  obtain ⟨hx, hb, hown, HB, HE, hA, hml, hlk, hl0⟩ := C
  intro ρ H locs ls sw h1 h2 h3 h4 h5 h6
  obtain ⟨sa, sb, rfl, ha, hb6⟩ := m_sr_app h6
  obtain ⟨rr, sw', rfl, hr, h7⟩ := m_sr_r hb6
  cases rr with
  | none => exact hr.elim
  | some b =>
    have hr' : ρ c i = some b := hr
    obtain ⟨V, ⟨cell, q1, q2, q3, q4⟩, hV⟩ := m_objAt h2 hr' hc
    obtain ⟨hS, hfc, -⟩ := HE.1.1 c _ hc
    have ha' : m_sr ρ as sa.reverse := by have := m_sr_rev ha; rw [List.reverse_reverse] at this; exact this
    have hpre : ∀ U : State, U.heap = H → s.WarmedH U.vm → m_Pc D ty xs A ρ σ (.inr (.inr (some (c, i))) :: as) (Value.ref b :: sa.reverse).toArray U := fun U hU hWU =>
      ⟨⟨Value.ref b :: sa.reverse, rfl, ⟨b, hr', rfl⟩, ha'⟩, by rw [hU]; exact h2.moved hWU.alike, HE.moved hWU (fun a g1 g2 => by rw [hU]; exact h4.2.1 a g1 g2), h3, fun q g => hA q (Nat.le_trans h4.1 (by rw [← hU]; exact g))⟩
    have hCB : ∀ {rt' : Option FieldType}, Cond.code y bytes mL rt' ∈ m_BIG → (Cond.methodLink own index y).before args s = true → CallB R s args own index y bytes mL rt' (m_W y bytes mL rt') rm mc1 ms1 as.length := fun h0 hl => callB_of as.length HB (m_W_good h0) rfl hrm.1 hrm.2.1 (HB _ hini) hl hd1 hrm.2.2
    exact m_j_run (vx_runV (S := (⟨hx, hb, hml, hown, HB⟩ : CallFix p m cd cc nL s args m_BIG own)) (hcon D ty xs A ρ) ⟨hCB hcode (HB _ hl), HB _ hinst, HB _ hsel⟩ (C := r.1) (b := b) (As := sa.reverse) ⟨m_blind, ⟨cell, q1, by rw [q3]; rfl, by rw [q2]; exact hfc⟩, hpre⟩ (g := F0 m pc ls (sa ++ Value.ref b :: sw')) (rest := sw') rfl (by rw [m_sr_len ha']) (h5.1.trans hL) (by rw [List.reverse_reverse]) (lv_room (by rw [m_sr_sum h7]; exact hW)) hd hcs) h1 h4 h5 h7 hret hthr
theorem m_j_callI (C : m_C p l s m args meth cd cc own nL D ty A) {y : MethodName} {bytes : ByteArray} {mL mc1 ms1 index : Nat} {rt : Option FieldType} {rm : Room} {as : List mV} {Q1 : mX → mS → Prop} {c i : Nat} {r : vw_C} (hc : m_cls[c]? = some r) (hcon : m_Con l y (m_W y bytes mL none) rm mc1 ms1 (.inr (.inr (some (c, i))) :: as) σ Q1) (hl : Cond.methodLink own index y ∈ m_BIG) (hinst : Cond.instanceMethod y ∈ m_BIG) (hy1 : y.name = "<init>")
    (hcode : Cond.code y bytes mL none ∈ m_BIG) (hini : Cond.initialized y.cls ∈ m_BIG) (hd1 : y.cls ≠ "java/lang/invoke/MethodHandle" ∧ y.cls ≠ "java/lang/invoke/VarHandle" ∧ (parseMethodDescriptor y.desc).map (fun d => d.parameters.length) = some as.length)
    (hrm : rm.cells = mc1 ∧ rm.slots = ms1 ∧ rm.frames + 1 ≤ R.frames ∧ 8 + (mL + 11) + rm.locals ≤ R.locals) (hL : L.length = nL) (hW : (st.map m_cat).sum ≤ 8) (hcs : k + mc1 ≤ R.cells ∧ n + ms1 ≤ R.slots)
    (hret : ∀ (v : Option mV) (σ' : mS), Q1 (.inl v) σ' → m_J p l e R s m args below meth cd Qt A ρ0 (m_X D ty s xs) (pc + 3) L (v.toList ++ st) σ' (k + mc1) (n + ms1))
    (hthr : ∀ (x : Nat) (σ' : mS), Q1 (.inr x) σ' → m_JX p l e R s m args below meth cd Qt A ρ0 (m_X D ty s xs) pc L σ' (k + mc1) (n + ms1) x) (hd : decode cc pc = .ok (.invokespecial index, 3)) :
    m_J p l e R s m args below meth cd Qt A ρ0 (m_X D ty s xs) pc L (as.reverse ++ .inr (.inr (some (c, i))) :: st) σ k n := by
  obtain ⟨hx, hb, hown, HB, HE, hA, hml, hlk, hl0⟩ := C
  intro ρ H locs ls sw h1 h2 h3 h4 h5 h6
  obtain ⟨sa, sb, rfl, ha, hb6⟩ := m_sr_app h6
  obtain ⟨rr, sw', rfl, hr, h7⟩ := m_sr_r hb6
  cases rr with
  | none => exact hr.elim
  | some b =>
    have hr' : ρ c i = some b := hr
    obtain ⟨V, ⟨cell, q1, q2, q3, q4⟩, hV⟩ := m_objAt h2 hr' hc
    obtain ⟨hS, hfc, -⟩ := HE.1.1 c _ hc
    have ha' : m_sr ρ as sa.reverse := by have := m_sr_rev ha; rw [List.reverse_reverse] at this; exact this
    have hpre : ∀ U : State, U.heap = H → s.WarmedH U.vm → m_Pc D ty xs A ρ σ (.inr (.inr (some (c, i))) :: as) (Value.ref b :: sa.reverse).toArray U := fun U hU hWU =>
      ⟨⟨Value.ref b :: sa.reverse, rfl, ⟨b, hr', rfl⟩, ha'⟩, by rw [hU]; exact h2.moved hWU.alike, HE.moved hWU (fun a g1 g2 => by rw [hU]; exact h4.2.1 a g1 g2), h3, fun q g => hA q (Nat.le_trans h4.1 (by rw [← hU]; exact g))⟩
    have hCB : ∀ {rt' : Option FieldType}, Cond.code y bytes mL rt' ∈ m_BIG → (Cond.methodLink own index y).before args s = true → CallB R s args own index y bytes mL rt' (m_W y bytes mL rt') rm mc1 ms1 as.length := fun h0 hl => callB_of as.length HB (m_W_good h0) rfl hrm.1 hrm.2.1 (HB _ hini) hl hd1 hrm.2.2
    exact m_j_run (vx_runI (S := (⟨hx, hb, hml, hown, HB⟩ : CallFix p m cd cc nL s args m_BIG own)) (hcon D ty xs A ρ) ⟨hCB hcode (HB _ hl), hy1, HB _ hinst⟩ (b := b) (As := sa.reverse) ⟨m_blind, hpre⟩ (g := F0 m pc ls (sa ++ Value.ref b :: sw')) (rest := sw') rfl (by rw [m_sr_len ha']) (h5.1.trans hL) (by rw [List.reverse_reverse]) (lv_room (by rw [m_sr_sum h7]; exact hW)) hd hcs) h1 h4 h5 h7 hret hthr
theorem m_j_callIN (C : m_C p l s m args meth cd cc own nL D ty A) {y : MethodName} {bytes : ByteArray} {mL mc1 ms1 index : Nat} {rt : Option FieldType} {rm : Room} {as : List mV} {Q1 : mX → mS → Prop} {c i : Nat} {r : vw_C} (hc : m_cls[c]? = some r) (hcon : m_Con l y (m_W y bytes mL none) rm mc1 ms1 (.inr (.inr (some (c, i))) :: as) σ Q1) {host : String} (hl : Cond.methodLinkNest own index y host ∈ m_ODD) (hinst : Cond.instanceMethod y ∈ m_BIG) (hy1 : y.name = "<init>")
    (hcode : Cond.code y bytes mL none ∈ m_BIG) (hini : Cond.initialized y.cls ∈ m_BIG) (hd1 : y.cls ≠ "java/lang/invoke/MethodHandle" ∧ y.cls ≠ "java/lang/invoke/VarHandle" ∧ (parseMethodDescriptor y.desc).map (fun d => d.parameters.length) = some as.length)
    (hrm : rm.cells = mc1 ∧ rm.slots = ms1 ∧ rm.frames + 1 ≤ R.frames ∧ 8 + (mL + 11) + rm.locals ≤ R.locals) (hL : L.length = nL) (hW : (st.map m_cat).sum ≤ 8) (hcs : k + mc1 ≤ R.cells ∧ n + ms1 ≤ R.slots)
    (hret : ∀ (v : Option mV) (σ' : mS), Q1 (.inl v) σ' → m_J p l e R s m args below meth cd Qt A ρ0 (m_X D ty s xs) (pc + 3) L (v.toList ++ st) σ' (k + mc1) (n + ms1))
    (hthr : ∀ (x : Nat) (σ' : mS), Q1 (.inr x) σ' → m_JX p l e R s m args below meth cd Qt A ρ0 (m_X D ty s xs) pc L σ' (k + mc1) (n + ms1) x) (hd : decode cc pc = .ok (.invokespecial index, 3)) :
    m_J p l e R s m args below meth cd Qt A ρ0 (m_X D ty s xs) pc L (as.reverse ++ .inr (.inr (some (c, i))) :: st) σ k n := by
  obtain ⟨hx, hb, hown, HB, HE, hA, hml, hlk, hl0⟩ := C
  intro ρ H locs ls sw h1 h2 h3 h4 h5 h6
  obtain ⟨sa, sb, rfl, ha, hb6⟩ := m_sr_app h6
  obtain ⟨rr, sw', rfl, hr, h7⟩ := m_sr_r hb6
  cases rr with
  | none => exact hr.elim
  | some b =>
    have hr' : ρ c i = some b := hr
    obtain ⟨V, ⟨cell, q1, q2, q3, q4⟩, hV⟩ := m_objAt h2 hr' hc
    obtain ⟨hS, hfc, -⟩ := HE.1.1 c _ hc
    have ha' : m_sr ρ as sa.reverse := by have := m_sr_rev ha; rw [List.reverse_reverse] at this; exact this
    have hpre : ∀ U : State, U.heap = H → s.WarmedH U.vm → m_Pc D ty xs A ρ σ (.inr (.inr (some (c, i))) :: as) (Value.ref b :: sa.reverse).toArray U := fun U hU hWU =>
      ⟨⟨Value.ref b :: sa.reverse, rfl, ⟨b, hr', rfl⟩, ha'⟩, by rw [hU]; exact h2.moved hWU.alike, HE.moved hWU (fun a g1 g2 => by rw [hU]; exact h4.2.1 a g1 g2), h3, fun q g => hA q (Nat.le_trans h4.1 (by rw [← hU]; exact g))⟩
    have hCB : ∀ {rt' : Option FieldType}, Cond.code y bytes mL rt' ∈ m_BIG → (Cond.methodLink own index y).before args s = true → CallB R s args own index y bytes mL rt' (m_W y bytes mL rt') rm mc1 ms1 as.length := fun h0 hl => callB_of as.length HB (m_W_good h0) rfl hrm.1 hrm.2.1 (HB _ hini) hl hd1 hrm.2.2
    exact m_j_run (vx_runIN (S := (⟨hx, hb, hml, hown, HB⟩ : CallFix p m cd cc nL s args m_BIG own)) (hcon D ty xs A ρ) ⟨va_cnB as.length HB (m_W_good hcode) rfl hrm.1 hrm.2.1 (HE.2.2.1 _ hl) (HB _ hini) hd1 hrm.2.2, hy1, HB _ hinst⟩ (b := b) (As := sa.reverse) ⟨m_blind, hpre⟩ (g := F0 m pc ls (sa ++ Value.ref b :: sw')) (rest := sw') rfl (by rw [m_sr_len ha']) (h5.1.trans hL) (by rw [List.reverse_reverse]) (lv_room (by rw [m_sr_sum h7]; exact hW)) hd hcs) h1 h4 h5 h7 hret hthr
theorem m_j_callS (C : m_C p l s m args meth cd cc own nL D ty A) {y : MethodName} {bytes : ByteArray} {mL mc1 ms1 index : Nat} {rt : Option FieldType} {rm : Room} {as : List mV} {Q1 : mX → mS → Prop} (hcon : m_Con l y (m_W y bytes mL rt) rm mc1 ms1 as σ Q1) (hl : Cond.methodLink own index y ∈ m_BIG) (hstat : Cond.static y ∈ m_BIG)
    (hcode : Cond.code y bytes mL rt ∈ m_BIG) (hini : Cond.initialized y.cls ∈ m_BIG) (hd1 : y.cls ≠ "java/lang/invoke/MethodHandle" ∧ y.cls ≠ "java/lang/invoke/VarHandle" ∧ (parseMethodDescriptor y.desc).map (fun d => d.parameters.length) = some as.length)
    (hrm : rm.cells = mc1 ∧ rm.slots = ms1 ∧ rm.frames + 1 ≤ R.frames ∧ 8 + (mL + 11) + rm.locals ≤ R.locals) (hL : L.length = nL) (hW : (st.map m_cat).sum ≤ 8) (hcs : k + mc1 ≤ R.cells ∧ n + ms1 ≤ R.slots)
    (hret : ∀ (v : Option mV) (σ' : mS), Q1 (.inl v) σ' → m_J p l e R s m args below meth cd Qt A ρ0 (m_X D ty s xs) (pc + 3) L (v.toList ++ st) σ' (k + mc1) (n + ms1))
    (hthr : ∀ (x : Nat) (σ' : mS), Q1 (.inr x) σ' → m_JX p l e R s m args below meth cd Qt A ρ0 (m_X D ty s xs) pc L σ' (k + mc1) (n + ms1) x) (hd : decode cc pc = .ok (.invokestatic index, 3)) :
    m_J p l e R s m args below meth cd Qt A ρ0 (m_X D ty s xs) pc L (as.reverse ++ st) σ k n := by
  obtain ⟨hx, hb, hown, HB, HE, hA, hml, hlk, hl0⟩ := C
  intro ρ H locs ls sw h1 h2 h3 h4 h5 h6
  obtain ⟨sa, sw', rfl, ha, h7⟩ := m_sr_app h6
  have ha' : m_sr ρ as sa.reverse := by have := m_sr_rev ha; rw [List.reverse_reverse] at this; exact this
  have hpre : ∀ U : State, U.heap = H → s.WarmedH U.vm → m_Pc D ty xs A ρ σ as sa.reverse.toArray U := fun U hU hWU =>
    ⟨⟨sa.reverse, rfl, ha'⟩, by rw [hU]; exact h2.moved hWU.alike, HE.moved hWU (fun a g1 g2 => by rw [hU]; exact h4.2.1 a g1 g2), h3, fun q g => hA q (Nat.le_trans h4.1 (by rw [← hU]; exact g))⟩
  exact m_j_run (vx_runS (S := (⟨hx, hb, hml, hown, HB⟩ : CallFix p m cd cc nL s args m_BIG own)) (hcon D ty xs A ρ) ⟨callB_of as.length HB (m_W_good hcode) rfl hrm.1 hrm.2.1 (HB _ hini) (HB _ hl) hd1 hrm.2.2, HB _ hstat⟩ (As := sa.reverse) ⟨m_blind, hpre⟩ (g := F0 m pc ls (sa ++ sw')) (rest := sw') rfl (by rw [m_sr_len ha']) (h5.1.trans hL) (by rw [List.reverse_reverse]) (lv_room (by rw [m_sr_sum h7]; exact hW)) hd hcs) h1 h4 h5 h7 hret hthr
theorem m_j_callSX (C : m_C p l s m args meth cd cc own nL D ty A) {y : MethodName} {bytes : ByteArray} {mL mc1 ms1 index : Nat} {rt : Option FieldType} {rm : Room} {as : List mV} {Q1 : mX → mS → Prop} {hh : List (Nat × Nat × Nat × Nat)} (hcon : m_Con l y (Cond.codeWith y bytes mL rt hh :: m_BIG) rm mc1 ms1 as σ Q1) (hl : Cond.methodLink own index y ∈ m_BIG) (hstat : Cond.static y ∈ m_BIG)
    (hcode : Cond.codeWith y bytes mL rt hh ∈ m_BIG) (hini : Cond.initialized y.cls ∈ m_BIG) (hd1 : y.cls ≠ "java/lang/invoke/MethodHandle" ∧ y.cls ≠ "java/lang/invoke/VarHandle" ∧ (parseMethodDescriptor y.desc).map (fun d => d.parameters.length) = some as.length)
    (hrm : rm.cells = mc1 ∧ rm.slots = ms1 ∧ rm.frames + 1 ≤ R.frames ∧ 8 + (mL + 11) + rm.locals ≤ R.locals) (hL : L.length = nL) (hW : (st.map m_cat).sum ≤ 8) (hcs : k + mc1 ≤ R.cells ∧ n + ms1 ≤ R.slots)
    (hret : ∀ (v : Option mV) (σ' : mS), Q1 (.inl v) σ' → m_J p l e R s m args below meth cd Qt A ρ0 (m_X D ty s xs) (pc + 3) L (v.toList ++ st) σ' (k + mc1) (n + ms1))
    (hthr : ∀ (x : Nat) (σ' : mS), Q1 (.inr x) σ' → m_JX p l e R s m args below meth cd Qt A ρ0 (m_X D ty s xs) pc L σ' (k + mc1) (n + ms1) x) (hd : decode cc pc = .ok (.invokestatic index, 3)) :
    m_J p l e R s m args below meth cd Qt A ρ0 (m_X D ty s xs) pc L (as.reverse ++ st) σ k n := by
  obtain ⟨hx, hb, hown, HB, HE, hA, hml, hlk, hl0⟩ := C
  intro ρ H locs ls sw h1 h2 h3 h4 h5 h6
  obtain ⟨sa, sw', rfl, ha, h7⟩ := m_sr_app h6
  have ha' : m_sr ρ as sa.reverse := by have := m_sr_rev ha; rw [List.reverse_reverse] at this; exact this
  have hpre : ∀ U : State, U.heap = H → s.WarmedH U.vm → m_Pc D ty xs A ρ σ as sa.reverse.toArray U := fun U hU hWU =>
    ⟨⟨sa.reverse, rfl, ha'⟩, by rw [hU]; exact h2.moved hWU.alike, HE.moved hWU (fun a g1 g2 => by rw [hU]; exact h4.2.1 a g1 g2), h3, fun q g => hA q (Nat.le_trans h4.1 (by rw [← hU]; exact g))⟩
  have hG : GoodIn m_BIG (Cond.codeWith y bytes mL rt hh :: m_BIG) := by
    intro w hw
    rcases List.mem_cons.mp hw with rfl | hw
    · exact ⟨hcode, m_BIG_good _ hcode⟩
    · exact ⟨hw, m_BIG_good _ hw⟩
  exact m_j_run (vx_runSX (S := (⟨hx, hb, hml, hown, HB⟩ : CallFix p m cd cc nL s args m_BIG own)) (hcon D ty xs A ρ) ⟨⟨hrm.1, hrm.2.1, hrm.2.2.1, hrm.2.2.2, pay_in HB hG, List.mem_cons_self⟩, HB _ hcode, HB _ hini, ⟨hd1.1, hd1.2.1⟩, (fun sig h => by have h2 := hd1.2.2; rw [h] at h2; exact (Option.some.inj h2).symm), HB _ hl, HB _ hstat⟩ (As := sa.reverse) ⟨m_blind, hpre⟩ (g := F0 m pc ls (sa ++ sw')) (rest := sw') rfl (by rw [m_sr_len ha']) (h5.1.trans hL) (by rw [List.reverse_reverse]) (lv_room (by rw [m_sr_sum h7]; exact hW)) hd hcs) h1 h4 h5 h7 hret hthr
end MK
end
section
/-! a contract out of its method's body -/
def m_args (avs : List mV) : List (Option mV) := avs.flatMap (fun x => match x with
  | .inr (.inl _) => [some x, none]
  | _ => [some x])
theorem m_ent {ρ : Nat → Nat → Option Nat} : ∀ {avs : List mV} {ws : List Value}, m_sr ρ avs ws → (lg_sl ws).length = (m_args avs).length ∧ ∀ (i : Nat) (x : mV), m_ld (m_args avs) i = some x → ∃ w, (lg_sl ws)[i]? = some (.val w) ∧ m_vr ρ x w
  | [], [], _ => ⟨rfl, fun i x h => by simp [m_args, m_ld] at h⟩
  | [], _ :: _, h => h.elim
  | _ :: _, [], h => h.elim
  | x :: xs, w :: ws, ⟨h1, h2⟩ => by
    obtain ⟨e1, e2⟩ := m_ent h2
    have hc := m_vr_catN h1
    have hl : lg_sl (w :: ws) = (if w.category = 2 then [.val w, .second] else [.val w]) ++ lg_sl ws := by simp [lg_sl]
    have go1 : w.category = 1 → m_args (x :: xs) = some x :: m_args xs → (lg_sl (w :: ws)).length = (m_args (x :: xs)).length ∧ ∀ (i : Nat) (z : mV), m_ld (m_args (x :: xs)) i = some z → ∃ v, (lg_sl (w :: ws))[i]? = some (.val v) ∧ m_vr ρ z v := by
      intro g1 g2
      rw [hl, g2, if_neg (by omega)]
      refine ⟨by simp [e1], fun i z h => ?_⟩
      cases i with
      | zero =>
        have : x = z := by simpa [m_ld] using h
        subst this
        exact ⟨w, by simp, h1⟩
      | succ i =>
        obtain ⟨v, v1, v2⟩ := e2 i z (by simpa [m_ld] using h)
        exact ⟨v, by simpa using v1, v2⟩
    have go2 : w.category = 2 → m_args (x :: xs) = some x :: none :: m_args xs → (lg_sl (w :: ws)).length = (m_args (x :: xs)).length ∧ ∀ (i : Nat) (z : mV), m_ld (m_args (x :: xs)) i = some z → ∃ v, (lg_sl (w :: ws))[i]? = some (.val v) ∧ m_vr ρ z v := by
      intro g1 g2
      rw [hl, g2, if_pos g1]
      refine ⟨by simp [e1], fun i z h => ?_⟩
      match i, h with
      | 0, h =>
        have : x = z := by simpa [m_ld] using h
        subst this
        exact ⟨w, by simp, h1⟩
      | 1, h => simp [m_ld] at h
      | i + 2, h =>
        obtain ⟨v, v1, v2⟩ := e2 i z (by simpa [m_ld] using h)
        exact ⟨v, by simpa using v1, v2⟩
    rcases x with a | a | a
    · exact go1 hc rfl
    · exact go2 hc rfl
    · exact go1 hc rfl
/-- the locals at a method's start -/
def m_L0 (nL : Nat) (avs : List mV) : List (Option mV) := m_args avs ++ List.replicate (nL - (m_args avs).length) none
theorem m_ent_lr {ρ : Nat → Nat → Option Nat} {avs : List mV} {ws : List Value} {nL : Nat} (h : m_sr ρ avs ws) (hn : (m_args avs).length ≤ nL) : m_lr ρ ((lg_sl ws ++ List.replicate (nL - (lg_sl ws).length) Slot.unset).toArray) (m_L0 nL avs) := by
  obtain ⟨e1, e2⟩ := m_ent h
  obtain ⟨g1, g2, -⟩ := lv_entry ws (n := nL) (by rw [e1]; exact hn)
  refine ⟨by rw [g1]; simp [m_L0]; omega, g2, fun i x hx => ?_⟩
  have hi : i < (m_args avs).length ∧ m_ld (m_args avs) i = some x := by
    unfold m_ld m_L0 at hx
    by_cases hlt : i < (m_args avs).length
    · rw [List.getElem?_append_left hlt] at hx
      exact ⟨hlt, hx⟩
    · rw [List.getElem?_append_right (by omega)] at hx
      by_cases h3 : i - (m_args avs).length < nL - (m_args avs).length
      · rw [List.getElem?_replicate, if_pos h3] at hx
        cases hx
      · rw [List.getElem?_replicate, if_neg h3] at hx
        cases hx
  obtain ⟨v, v1, v2⟩ := e2 i x hi.2
  refine ⟨v, ?_, v2⟩
  rw [List.getElem?_toArray, List.getElem?_append_left (by rw [e1]; exact hi.1)]
  exact v1
theorem m_con_of {l : Launch} (hl : l.stackTraces = false) {y : MethodName} {cc : ByteArray} {maxL mc ms : Nat} {ret : Option FieldType} {rm : Room} {avs : List mV} {σ : mS} {Q : mX → mS → Prop} (hy : plainName y.cls = true) (hn : (m_args avs).length ≤ maxL)
    (body : ∀ (p : Program) (e : Env) (s : State) (m : MethodId) (args : Array Value) (below : List Frame) (meth : Method) (cd : Code) (D : va_G) (ty : List (ClassId × FieldType)) (xs : Option (Nat × (Nat → Int32))) (A : Nat → Prop) (ρ0 : Nat → Nat → Option Nat),
      m_C p l s m args meth cd cc y.cls maxL D ty A → (∀ x ∈ cd.exceptionTable.toList, False) → meth.sig.returnType = ret → meth.name = y.name →
      m_J p l e rm s m args below meth cd (vx_MQ below (m_Qc D ty xs A ρ0 Q) (m_XC D ty xs A ρ0 Q) args s mc ms A) A ρ0 (m_X D ty s xs) 0 (m_L0 maxL avs) [] σ 0 0) : m_Con l y (m_W y cc maxL ret) rm mc ms avs σ Q := by
  intro D ty xs A ρ
  refine vx_ofW hy rfl (fun p e s m args below meth c s₁ B hml ht hP => ?_)
  obtain ⟨⟨ws, rfl, hsr⟩, hX, hE, hA1, hA2⟩ := hP
  have hts : ∀ w ∈ m_W y cc maxL ret, w.before ws.toArray s = true := atoms_spec (ws := m_W y cc maxL ret) B.pre
  have hJ := body p e s m ws.toArray below meth c D ty xs A ρ ⟨B.exec, B.bytes, findClass_of_methodNamed B.named, fun w hw => hts w (List.mem_cons_of_mem _ hw), hE, hA2, hml, B.notSynchronized, hl⟩ ht B.returns (name_of_methodNamed B.named B.method).1
  rw [lg_entry_eq]
  exact hJ ρ s.heap [] _ [] m_le.rf hX hA1 va_S.rf (m_ent_lr hsr hn) trivial
end
section
/-! one step of the model: what is owed at an instruction so that its continuation K follows -/
def m_p (r : mRow) (i : Nat) : Nat := r.2.2.2.2.2.getD i 0
/-- a row of the table of methods: name, code, places of locals, what is returned, room, handlers -/
abbrev mMt : Type := MethodName × ByteArray × Nat × Option FieldType × Room × List (Nat × Nat × Nat × Nat)
/-- a method's words -/
def m_ws (y : mMt) : List Cond := match y.2.2.2.2.2 with
  | [] => m_W y.1 y.2.1 y.2.2.1 y.2.2.2.1
  | hh => Cond.codeWith y.1 y.2.1 y.2.2.1 y.2.2.2.1 hh :: m_BIG
def m_take (st : List mV) (r : mRow) : List mV := (st.take r.2.2.2.1).reverse
/-- what is owed of the room that is used -/
def m_rm (R : Room) (k n : Nat) : Prop := k ≤ R.cells ∧ n ≤ R.slots
def m_s_get (r : mRow) (σ : mS) (st : List mV) (F : List mV → Prop) : Prop := match st with
  | .inr (.inr (some q)) :: st => q.1 = r.2.2.1 ∧ F (m_get σ r.2.2.1 q.2 r.2.2.2.1 :: st)
  | _ => False
def m_s_put (r : mRow) (σ : mS) (st : List mV) (F : List mV → mS → Prop) : Prop := match st with
  | x :: .inr (.inr (some q)) :: st => q.1 = r.2.2.1 ∧ m_tp (m_ty r.2.2.1 r.2.2.2.1) x ∧ F st (m_set σ r.2.2.1 q.2 r.2.2.2.1 x)
  | _ => False
/-- the law's own script: its length, a load -/
def m_s_xlen (xs : Option (Nat × (Nat → Int32))) (st : List mV) (F : List mV → Prop) : Prop := match xs, st with
  | some z, _ :: st => z.1 < 2147483648 ∧ F (.inl (Int32.ofNat z.1) :: st)
  | _, _ => False
def m_s_xld (xs : Option (Nat × (Nat → Int32))) (st : List mV) (F : List mV → Prop) : Prop := match xs, st with
  | some z, .inl x :: _ :: st => vp_in x z.1 ∧ F (.inl (z.2 x.toNatClampNeg) :: st)
  | _, _ => False
def m_isx (st : List mV) (i : Nat) : Bool := match st.drop i with
  | .inr (.inr (some q)) :: _ => Nat.beq q.1 98
  | _ => false
def m_s_len (σ : mS) (st : List mV) (F : List mV → Prop) : Prop := match st with
  | .inr (.inr (some q)) :: st => (13 ≤ q.1 ∧ q.1 ≤ 21) ∧ F (.inl (Int32.ofNat (σ.2.1 q.1 q.2)) :: st)
  | _ => False
/-- a load from an array of the class c -/
def m_s_ald (c : Nat) (σ : mS) (st : List mV) (F : List mV → Prop) : Prop := match st with
  | .inl x :: .inr (.inr (some q)) :: st => q.1 = c ∧ vp_in x (σ.2.1 c q.2) ∧ F (m_get σ c q.2 x.toNatClampNeg :: st)
  | _ => False
def m_s_aldq (σ : mS) (st : List mV) (F : List mV → Prop) : Prop := match st with
  | .inl x :: .inr (.inr (some q)) :: st => (16 ≤ q.1 ∧ q.1 ≤ 21) ∧ vp_in x (σ.2.1 q.1 q.2) ∧ F (m_get σ q.1 q.2 x.toNatClampNeg :: st)
  | _ => False
def m_s_iast (σ : mS) (st : List mV) (F : List mV → mS → Prop) : Prop := match st with
  | .inl v :: .inl x :: .inr (.inr (some q)) :: st => q.1 = 13 ∧ vp_in x (σ.2.1 13 q.2) ∧ F st (m_set σ 13 q.2 x.toNatClampNeg (.inl v))
  | _ => False
def m_s_zast (σ : mS) (st : List mV) (F : List mV → mS → Prop) : Prop := match st with
  | .inl v :: .inl x :: .inr (.inr (some q)) :: st => q.1 = 15 ∧ (v = 0 ∨ v = 1) ∧ vp_in x (σ.2.1 15 q.2) ∧ F st (m_set σ 15 q.2 x.toNatClampNeg (.inl v))
  | _ => False
def m_s_last (σ : mS) (st : List mV) (F : List mV → mS → Prop) : Prop := match st with
  | .inr (.inl v) :: .inl x :: .inr (.inr (some q)) :: st => q.1 = 14 ∧ vp_in x (σ.2.1 14 q.2) ∧ F st (m_set σ 14 q.2 x.toNatClampNeg (.inr (.inl v)))
  | _ => False
/-- the class of the elements of an array's class -/
def m_el (c : Nat) : Nat := match c with
  | 16 => 6
  | 17 => 7
  | 18 => 8
  | 19 => 9
  | 20 => 10
  | _ => 99
def m_s_astq (σ : mS) (st : List mV) (F : List mV → mS → Prop) : Prop := match st with
  | .inr (.inr (some d)) :: .inl x :: .inr (.inr (some q)) :: st => d.1 = m_el q.1 ∧ (16 ≤ q.1 ∧ q.1 ≤ 20) ∧ vp_in x (σ.2.1 q.1 q.2) ∧ F st (m_set σ q.1 q.2 x.toNatClampNeg (.inr (.inr (some d))))
  | _ => False
def m_s_newa (R : Room) (r : mRow) (σ : mS) (st : List mV) (k n : Nat) (F : List mV → mS → Nat → Prop) : Prop := match st with
  | .inl x :: st => ¬ x < 0 ∧ x.toNatClampNeg ≤ 1000000 ∧ m_rm R (k + 1) (n + x.toNatClampNeg) ∧ F (.inr (.inr (some (r.2.2.1, σ.1 r.2.2.1))) :: st) (m_nu σ r.2.2.1 x.toNatClampNeg) (n + x.toNatClampNeg)
  | _ => False
def m_nf (c : Nat) : Nat := match m_cls[c]? with
  | some v => v.2.2
  | none => 0
/-- what a call's end owes -/
def m_s_end (T : mS → Nat → Nat → Nat → Prop) (F : List mV → mS → Nat → Nat → Prop) (st : List mV) (k n : Nat) (y : mMt) : mX → mS → Prop := fun x σ' => match x with
  | .inl v => F (v.toList ++ st) σ' (k + y.2.2.2.2.1.cells) (n + y.2.2.2.2.1.slots)
  | .inr x => T σ' (k + y.2.2.2.2.1.cells) (n + y.2.2.2.2.1.slots) x
def m_s_callV (l : Launch) (R : Room) (T : mS → Nat → Nat → Nat → Prop) (y : mMt) (r : mRow) (σ : mS) (st : List mV) (k n : Nat) (F : List mV → mS → Nat → Nat → Prop) : Prop := match st.drop r.2.2.2.1 with
  | .inr (.inr (some q)) :: st' => q.1 = m_p r 5 ∧ (st.take r.2.2.2.1).length = r.2.2.2.1 ∧ (st'.map m_cat).sum ≤ 8 ∧ m_rm R (k + y.2.2.2.2.1.cells) (n + y.2.2.2.2.1.slots) ∧ m_Con l y.1 (m_ws y) y.2.2.2.2.1 y.2.2.2.2.1.cells y.2.2.2.2.1.slots (.inr (.inr (some (m_p r 5, q.2))) :: m_take st r) σ (m_s_end T F st' k n y)
  | _ => False
def m_s_callS (l : Launch) (R : Room) (T : mS → Nat → Nat → Nat → Prop) (y : mMt) (r : mRow) (σ : mS) (st : List mV) (k n : Nat) (F : List mV → mS → Nat → Nat → Prop) : Prop :=
  (st.take r.2.2.2.1).length = r.2.2.2.1 ∧ ((st.drop r.2.2.2.1).map m_cat).sum ≤ 8 ∧ m_rm R (k + y.2.2.2.2.1.cells) (n + y.2.2.2.2.1.slots) ∧ m_Con l y.1 (m_ws y) y.2.2.2.2.1 y.2.2.2.2.1.cells y.2.2.2.2.1.slots (m_take st r) σ (m_s_end T F (st.drop r.2.2.2.1) k n y)
/-- Math's own -/
def m_s_math (R : Room) (a : Nat) (st : List mV) (F : List mV → Prop) : Prop := match a, st with
  | 1000, .inl y :: .inl x :: st => (st.map m_cat).sum + 13 ≤ R.locals ∧ F (.inl (if x < y then y else x) :: st)
  | 1001, .inl y :: .inl x :: st => (st.map m_cat).sum + 13 ≤ R.locals ∧ F (.inl (if y < x then y else x) :: st)
  | 1002, .inl x :: st => (st.map m_cat).sum + 13 ≤ R.locals ∧ F (.inl (if 0 ≤ x then x else 0 - x) :: st)
  | 1003, .inr (.inl y) :: .inr (.inl x) :: st => (st.map m_cat).sum + 15 ≤ R.locals ∧ F (.inr (.inl (if y < x then x else y)) :: st)
  | 1004, .inr (.inl y) :: .inr (.inl x) :: st => (st.map m_cat).sum + 15 ≤ R.locals ∧ F (.inr (.inl (if y < x then y else x)) :: st)
  | _, _ => False
def m_s_obj (R : Room) (st : List mV) (F : List mV → Prop) : Prop := match st with
  | .inr (.inr (some _)) :: st => (st.map m_cat).sum + 12 ≤ R.locals ∧ F st
  | _ => False
def m_s_iret (rt : Option FieldType) (st : List mV) (F : Int32 → Prop) : Prop := match st with
  | [.inl v] => (rt = some .int ∨ (rt = some .boolean ∧ (v = 0 ∨ v = 1))) ∧ F v
  | _ => False
def m_s_lret (rt : Option FieldType) (st : List mV) (F : Int64 → Prop) : Prop := match st with
  | [.inr (.inl v)] => rt = some .long ∧ F v
  | _ => False
def m_isr (rt : Option FieldType) : Bool := match rt with
  | some (.object _) => true
  | some (.array _) => true
  | _ => false
def m_s_aret (rt : Option FieldType) (st : List mV) (F : mR → Prop) : Prop := match st with
  | [.inr (.inr v)] => m_isr rt = true ∧ F v
  | _ => False
def m_s_bare (r : mRow) (pc : Nat) (L : List (Option mV)) (st : List mV) (F : Nat → List (Option mV) → List mV → Prop) : Prop := match m_cond r st with
  | some q => (q.1 → F r.2.2.1 L q.2) ∧ (¬ q.1 → F (pc + 3) L q.2)
  | none => match m_pure r pc L st with
    | some q => F q.1 q.2.1 q.2.2
    | none => False
def m_step (mt : List mMt) (l : Launch) (rt : Option FieldType) (R : Room) (nL : Nat) (rows : List (Nat × mRow)) (mc ms : Nat) (Q : mX → mS → Prop) (xs : Option (Nat × (Nat → Int32))) (T : Nat → List (Option mV) → mS → Nat → Nat → Nat → Prop) (K : Nat → List (Option mV) → List mV → mS → Nat → Nat → Prop) (pc : Nat) (L : List (Option mV)) (st : List mV) (σ : mS) (k n : Nat) : Prop :=
  match m_at rows pc with
  | none => False
  | some r => match r.1 with
    | .getfield _ => m_s_get r σ st (fun st => K (pc + 3) L st σ k n)
    | .putfield _ => m_s_put r σ st (fun st σ => K (pc + 3) L st σ k n)
    | .arraylength => bif m_isx st 0 then m_s_xlen xs st (fun st => K (pc + 1) L st σ k n) else m_s_len σ st (fun st => K (pc + 1) L st σ k n)
    | .iaload => bif m_isx st 1 then m_s_xld xs st (fun st => K (pc + 1) L st σ k n) else m_s_ald 13 σ st (fun st => K (pc + 1) L st σ k n)
    | .laload => m_s_ald 14 σ st (fun st => K (pc + 1) L st σ k n)
    | .baload => m_s_ald 15 σ st (fun st => K (pc + 1) L st σ k n)
    | .aaload => m_s_aldq σ st (fun st => K (pc + 1) L st σ k n)
    | .iastore => m_s_iast σ st (fun st σ => K (pc + 1) L st σ k n)
    | .lastore => m_s_last σ st (fun st σ => K (pc + 1) L st σ k n)
    | .bastore => m_s_zast σ st (fun st σ => K (pc + 1) L st σ k n)
    | .aastore => m_s_astq σ st (fun st σ => K (pc + 1) L st σ k n)
    | .new _ => if r.2.2.1 < 13 then m_rm R (k + 1) (n + m_nf r.2.2.1) ∧ K (pc + 3) L (.inr (.inr (some (r.2.2.1, σ.1 r.2.2.1))) :: st) (m_nu σ r.2.2.1 0) (k + 1) (n + m_nf r.2.2.1)
      else L.length = nL ∧ 5 < R.frames ∧ (st.map m_cat).sum + 82 ≤ R.locals ∧ m_rm R (k + 1) (n + 6) ∧ k + 1 ≤ mc ∧ n + 6 ≤ ms ∧ Q (.inr (r.2.2.1 - 100)) σ
    | .newarray _ => m_s_newa R r σ st k n (fun st σ n => K (pc + 2) L st σ (k + 1) n)
    | .anewarray _ => m_s_newa R r σ st k n (fun st σ n => K (pc + 3) L st σ (k + 1) n)
    | .invokevirtual _ => L.length = nL ∧ match mt[r.2.2.1]? with
      | some y => m_s_callV l R (T pc L) y r σ st k n (fun st σ k n => K (pc + 3) L st σ k n)
      | none => False
    | .invokespecial _ => L.length = nL ∧ if r.2.2.1 = 2000 then m_s_obj R st (fun st => K (pc + 3) L st σ k n) else match mt[r.2.2.1]? with
      | some y => m_s_callV l R (T pc L) y r σ st k n (fun st σ k n => K (pc + 3) L st σ k n)
      | none => False
    | .invokestatic _ => L.length = nL ∧ m_rm R k n ∧ if 1000 ≤ r.2.2.1 then m_s_math R r.2.2.1 st (fun st => K (pc + 3) L st σ k n) else match mt[r.2.2.1]? with
      | some y => m_s_callS l R (T pc L) y r σ st k n (fun st σ k n => K (pc + 3) L st σ k n)
      | none => False
    | .ireturn => k ≤ mc ∧ n ≤ ms ∧ m_s_iret rt st (fun v => Q (.inl (some (.inl v))) σ)
    | .lreturn => k ≤ mc ∧ n ≤ ms ∧ m_s_lret rt st (fun v => Q (.inl (some (.inr (.inl v)))) σ)
    | .areturn => k ≤ mc ∧ n ≤ ms ∧ m_s_aret rt st (fun v => Q (.inl (some (.inr (.inr v)))) σ)
    | .return_ => k ≤ mc ∧ n ≤ ms ∧ rt = none ∧ st = [] ∧ Q (.inl none) σ
    | _ => m_s_bare r pc L st (fun pc L st => K pc L st σ k n)
/-- steps, up to one of the cuts -/
def m_run (mt : List mMt) (l : Launch) (rt : Option FieldType) (R : Room) (nL : Nat) (rows : List (Nat × mRow)) (mc ms : Nat) (Q : mX → mS → Prop) (xs : Option (Nat × (Nat → Int32))) (T : Nat → List (Option mV) → mS → Nat → Nat → Nat → Prop) (K : Nat → List (Option mV) → List mV → mS → Nat → Nat → Prop) (cuts : List Nat) : Nat → Nat → List (Option mV) → List mV → mS → Nat → Nat → Prop
  | 0 => K
  | f + 1 => fun pc L st σ k n => bif cuts.contains pc then K pc L st σ k n else m_step mt l rt R nL rows mc ms Q xs T (m_run mt l rt R nL rows mc ms Q xs T K cuts f) pc L st σ k n
/-! what the rows owe to the tables -/
def m_wd (j : Nat) (w : Cond) : Bool := decide (lw_tbl[j]? = some w) && goodWord w
def m_od (j : Nat) (w : Cond) : Bool := decide (lw_tbl[j]? = some w) && m_oddk w
theorem m_wd_ok {j : Nat} {w : Cond} (h : m_wd j w = true) : w ∈ m_BIG := by
  simp only [m_wd, Bool.and_eq_true, decide_eq_true_eq] at h
  exact List.mem_filter.mpr ⟨List.mem_of_getElem? h.1, h.2⟩
theorem m_od_ok {j : Nat} {w : Cond} (h : m_od j w = true) : w ∈ m_ODD := by
  simp only [m_od, Bool.and_eq_true, decide_eq_true_eq] at h
  exact List.mem_filter.mpr ⟨List.mem_of_getElem? h.1, h.2⟩
/-- a call's words: link and kind apart -/
def m_callB (R : Room) (y : mMt) (r : mRow) : Bool :=
  m_wd (m_p r 3) (.initialized y.1.cls) && (match y.2.2.2.2.2 with | [] => m_wd (m_p r 4) (.code y.1 y.2.1 y.2.2.1 y.2.2.2.1) | hh => m_wd (m_p r 4) (.codeWith y.1 y.2.1 y.2.2.1 y.2.2.2.1 hh)) && decide (y.1.cls ≠ "java/lang/invoke/MethodHandle" ∧ y.1.cls ≠ "java/lang/invoke/VarHandle" ∧ (parseMethodDescriptor y.1.desc).map (fun d => d.parameters.length) = some r.2.2.2.1) && decide (y.2.2.2.2.1.frames + 1 ≤ R.frames ∧ 8 + (y.2.2.1 + 11) + y.2.2.2.2.1.locals ≤ R.locals)
def m_mathB (own : String) (i : Nat) (a : Nat) (r : mRow) : Bool := match a with
  | 1000 => m_wd (m_p r 0) (.methodLink own i Lib.Math.max.name) && m_wd (m_p r 1) (.static Lib.Math.max.name) && m_wd (m_p r 4) (.code Lib.Math.max.name Lib.Math.max.code 2 (some .int))
  | 1001 => m_wd (m_p r 0) (.methodLink own i Lib.Math.min.name) && m_wd (m_p r 1) (.static Lib.Math.min.name) && m_wd (m_p r 4) (.code Lib.Math.min.name Lib.Math.min.code 2 (some .int))
  | 1002 => m_wd (m_p r 0) (.methodLink own i Lib.Math.abs.name) && m_wd (m_p r 1) (.static Lib.Math.abs.name) && m_wd (m_p r 4) (.code Lib.Math.abs.name Lib.Math.abs.code 1 (some .int))
  | 1003 => m_wd (m_p r 0) (.methodLink own i Lib.MathLoose.max_long.x) && m_wd (m_p r 1) (.static Lib.MathLoose.max_long.x) && m_wd (m_p r 4) (.code Lib.MathLoose.max_long.x Lib.MathLoose.max_long.code 4 (some .long))
  | 1004 => m_wd (m_p r 0) (.methodLink own i Lib.MathLoose.min_long.x) && m_wd (m_p r 1) (.static Lib.MathLoose.min_long.x) && m_wd (m_p r 4) (.code Lib.MathLoose.min_long.x Lib.MathLoose.min_long.code 4 (some .long))
  | _ => false
def m_rowB (mt : List mMt) (own : String) (ini : Bool) (cc : ByteArray) (R : Room) (q : Nat × mRow) : Bool :=
  decide (decode cc q.1 = .ok (q.2.1, m_len q.2)) && match q.2.1 with
    | .goto o => decide ((q.1 : Int) + o = (q.2.2.2.1 : Int))
    | .ifCond _ o => decide ((q.1 : Int) + o = (q.2.2.2.1 : Int))
    | .if_icmp _ o => decide ((q.1 : Int) + o = (q.2.2.2.1 : Int))
    | .if_acmp _ o => decide ((q.1 : Int) + o = (q.2.2.2.1 : Int))
    | .ifnull o => decide ((q.1 : Int) + o = (q.2.2.2.1 : Int))
    | .ifnonnull o => decide ((q.1 : Int) + o = (q.2.2.2.1 : Int))
    | .tableswitch d _ _ offs => decide (0 ≤ (q.1 : Int) + d) && offs.toList.all (fun o => decide (0 ≤ (q.1 : Int) + o))
    | .ldc i => m_wd (m_p q.2 0) (.constant own i (Int32.ofInt q.2.2.2.2.2.1))
    | .ldc_w i => m_wd (m_p q.2 0) (.constant own i (Int32.ofInt q.2.2.2.2.2.1))
    | .ldc2_w i => m_wd (m_p q.2 0) (.constantLong own i (Int64.ofInt q.2.2.2.2.2.1))
    | .getfield i => match m_cls[q.2.2.2.1]? with
      | some v => decide (q.2.2.2.2.1 < v.2.2) && m_wd (m_p q.2 0) (.fieldLink own i v.1 (v.2.1 q.2.2.2.2.1).2.1 (v.2.1 q.2.2.2.2.1).2.2.1)
      | none => false
    | .putfield i => match m_cls[q.2.2.2.1]? with
      | some v => decide (q.2.2.2.2.1 < v.2.2) && m_wd (m_p q.2 0) (.fieldLink own i v.1 (v.2.1 q.2.2.2.2.1).2.1 (v.2.1 q.2.2.2.2.1).2.2.1) && (decide ((v.2.1 q.2.2.2.2.1).2.2.2 = false) || (ini && decide ((v.2.1 q.2.2.2.2.1).2.2.2 = true ∧ v.1 = own)))
      | none => false
    | .new i => bif Nat.blt q.2.2.2.1 13 then (match m_cls[q.2.2.2.1]? with
        | some v => m_wd (m_p q.2 0) (.classLink own i v.1) && m_wd (m_p q.2 1) (.instantiable v.1 v.2.2) && m_wd (m_p q.2 2) (.initialized v.1)
        | none => false)
      else decide (own = RX11 ∧ 100 ≤ q.2.2.2.1 ∧ q.2.2.2.1 < 103 ∧ i = (m_xk (q.2.2.2.1 - 100)).1) && m_strs.any (fun t => decide (t.2.1 = q.2.2.2.2.1)) && decide (decode cc (q.1 + 3) = .ok (.dup, 1)) &&
        ((decide (decode cc (q.1 + 4) = .ok (.ldc q.2.2.2.2.1, 2)) && decide (decode cc (q.1 + 6) = .ok (.invokespecial (m_xk (q.2.2.2.1 - 100)).2, 3)) && decide (decode cc (q.1 + 9) = .ok (.athrow, 1))) ||
         (decide (decode cc (q.1 + 4) = .ok (.ldc_w q.2.2.2.2.1, 3)) && decide (decode cc (q.1 + 7) = .ok (.invokespecial (m_xk (q.2.2.2.1 - 100)).2, 3)) && decide (decode cc (q.1 + 10) = .ok (.athrow, 1))))
    | .newarray t => decide (13 ≤ q.2.2.2.1 ∧ q.2.2.2.1 < 16 ∧ m_aty[q.2.2.2.1 - 13]? = some (newarray.typeOf t)) && m_wd (m_p q.2 0) (.arrayClass (newarray.typeOf t))
    | .anewarray i => decide (16 ≤ q.2.2.2.1 ∧ q.2.2.2.1 < 21) && (match m_cls[m_el q.2.2.2.1]? with
      | some v => decide (m_aty[q.2.2.2.1 - 13]? = some (.object v.1)) && m_wd (m_p q.2 0) (.classLink own i v.1) && m_od (m_p q.2 1) (.arrayOver (.object v.1))
      | none => false)
    | .invokevirtual i => match mt[q.2.2.2.1]?, m_cls[m_p q.2 5]? with
      | some y, some v => decide (v.1 = y.1.cls) && m_wd (m_p q.2 0) (.methodLink own i y.1) && m_wd (m_p q.2 1) (.instanceMethod y.1) && m_wd (m_p q.2 2) (.selects v.1 y.1 y.1) && y.2.2.2.2.2.isEmpty && m_callB R y q.2
      | _, _ => false
    | .invokespecial i => bif Nat.beq q.2.2.2.1 2000 then m_wd (m_p q.2 0) (.methodLink own i objectInit) && m_wd (m_p q.2 1) (.instanceMethod objectInit) && m_wd (m_p q.2 4) (.code objectInit ⟨#[0xb1]⟩ 1 none) && decide (1 ≤ R.frames)
      else match mt[q.2.2.2.1]?, m_cls[m_p q.2 5]? with
      | some y, some v => decide (v.1 = y.1.cls ∧ y.1.name = "<init>" ∧ y.2.2.2.1 = none) && y.2.2.2.2.2.isEmpty && (m_wd (m_p q.2 0) (.methodLink own i y.1) || m_od (m_p q.2 0) (.methodLinkNest own i y.1 RX11)) && m_wd (m_p q.2 1) (.instanceMethod y.1) && m_callB R y q.2
      | _, _ => false
    | .invokestatic i => bif Nat.ble 1000 q.2.2.2.1 then m_mathB own i q.2.2.2.1 q.2 && m_wd (m_p q.2 3) (.initialized "java/lang/Math") && decide (1 ≤ R.frames)
      else match mt[q.2.2.2.1]? with
      | some y => m_wd (m_p q.2 0) (.methodLink own i y.1) && m_wd (m_p q.2 1) (.static y.1) && m_callB R y q.2
      | none => false
    | _ => true
end
section
/-! the step holds of the machine -/
def m_layB : Bool := m_cls.all (fun v => (u_ws v.1 v.2.1 v.2.2).all (fun w => lw_tbl.contains w && goodWord w))
theorem m_layB_ok : m_layB = true := by decide +kernel
theorem m_lay {c : Nat} {v : vw_C} (h : m_cls[c]? = some v) : ∀ w ∈ u_ws v.1 v.2.1 v.2.2, w ∈ m_BIG := by
  intro w hw
  have h1 := List.all_eq_true.mp (List.all_eq_true.mp m_layB_ok v (List.mem_of_getElem? h)) w hw
  simp only [Bool.and_eq_true] at h1
  exact List.mem_filter.mpr ⟨List.contains_iff_mem.mp h1.1, h1.2⟩
section MG
variable {p : Program} {l : Launch} {e : Env} {R : Room} {s : State} {m : MethodId} {args : Array Value} {below : List Frame} {meth : Method} {cd : Code} {Qt : State → Prop} {A : Nat → Prop} {ρ0 : Nat → Nat → Option Nat} {cc : ByteArray} {own : String} {D : va_G} {ty : List (ClassId × FieldType)} {xs : Option (Nat × (Nat → Int32))} {nL : Nat}
variable {pc k n mc ms : Nat} {L : List (Option mV)} {st : List mV} {σ : mS} {Q : mX → mS → Prop} {mt : List mMt} {rt : Option FieldType} {r : mRow} {ini : Bool}
theorem m_j_newq (C : m_C p l s m args meth cd cc own nL D ty A) {j c index : Nat} {x : Int32} {v : vw_C} (hj : j < 9) (hv : m_cls[c]? = some v) (ht : m_aty[j]? = some (.object v.1)) (hcl : Cond.classLink own index v.1 ∈ m_BIG) (hov : Cond.arrayOver (.object v.1) ∈ m_ODD) (hn : ¬ x < 0) (hbytes : x.toNatClampNeg * 4 ≤ 536870912) (hr : m_rm R (k + 1) (n + x.toNatClampNeg)) (hd : decode cc pc = .ok (.anewarray index, 3)) (K : m_J p l e R s m args below meth cd Qt A ρ0 (m_X D ty s xs) (pc + 3) L (.inr (.inr (some (j + 13, σ.1 (j + 13)))) :: st) (m_nu σ (j + 13) x.toNatClampNeg) (k + 1) (n + x.toNatClampNeg)) : m_J p l e R s m args below meth cd Qt A ρ0 (m_X D ty s xs) pc L (.inl x :: st) σ k n := by
  obtain ⟨hx, hb, hown, HB, HE, hA, hml, hlk, hl0⟩ := C
  intro ρ H locs ls sw h1 h2 h3 h4 h5 h6
  obtain ⟨_, rfl, h7⟩ := m_sr_i h6
  refine W.anew hx hb hown (HB _ hcl) (show va_AO v.1 s from HE.2.2.1 _ hov) rfl hd rfl hn hbytes hr.1 hr.2 fun cA kA comp f1 f2 f3 f4 => ?_
  generalize hH1 : H.push ({ cls := cA, slots := Array.replicate x.toNatClampNeg .null, vm := .none } : Cell) = H1
  have z1 : H1.size = H.size + 1 := by rw [← hH1, Array.size_push]
  have e1 : H1[H.size]? = some (arrV cA x.toNatClampNeg (fun _ => .null)) := by rw [← hH1, Array.getElem?_push_size, ← arrV_new]
  have o1 : ∀ q : Nat, q < H.size → H1[q]? = H[q]? := fun q hq => by rw [← hH1, Array.getElem?_push, if_neg (Nat.ne_of_lt hq)]
  have hl : j < ty.length := by
    have : (ty.map (fun q => q.2)).length = 9 := by rw [HE.2.1]; rfl
    rw [List.length_map] at this; omega
  have hq : ty[j]? = some ty[j] := List.getElem?_eq_getElem hl
  have he : ty[j].2 = .object v.1 := m_tyAt HE.2.1 hq ht
  have hra := (HE.1.2 j _ hq).2
  rw [he] at hra
  obtain ⟨kA', comp', g1, g2, g3, g4⟩ := hra
  have hca : cA = ty[j].1 := Option.some.inj (f1.symm.trans g4)
  subst hca
  obtain ⟨g1, g2, g3, g4⟩ := h2.nu (c := j + 13) (n := x.toNatClampNeg) (by omega) (Nat.le_refl _) o1 (Or.inr ⟨j, ty[j], rfl, hq, fun _ => .null, by rw [m_nu_lenN]; exact e1, fun k' hk' => by rw [m_nu_new, m_ty_arr ht]; rfl⟩)
  refine K _ H1 locs ls _ (h1.tr g2) g1 (fun c' i' a' h98 h' => ?_) ⟨Nat.le_trans h4.1 (by omega), fun q e2 e3 => (o1 q (Nat.lt_of_lt_of_le e2 h4.1)).trans (h4.2.1 q e2 e3), h4.2.2⟩ (h5.le g2) ⟨⟨_, g3, rfl⟩, h7.le g2⟩
  rcases g4 c' i' a' h' with z | z
  · rw [z]; exact hA _ h4.1
  · exact h3 _ _ _ h98 z
theorem m_j_obj (C : m_C p l s m args meth cd cc own nL D ty A) {index : Nat} {q : Nat × Nat} (hl : Cond.methodLink own index objectInit ∈ m_BIG) (hi : Cond.instanceMethod objectInit ∈ m_BIG) (hc : Cond.code objectInit ⟨#[0xb1]⟩ 1 none ∈ m_BIG) (hL : L.length = nL) (hf : 1 ≤ R.frames) (hlo : (st.map m_cat).sum + 12 ≤ R.locals) (hd : decode cc pc = .ok (.invokespecial index, 3)) (K : m_J p l e R s m args below meth cd Qt A ρ0 (m_X D ty s xs) (pc + 3) L st σ k n) : m_J p l e R s m args below meth cd Qt A ρ0 (m_X D ty s xs) pc L (.inr (.inr (some q)) :: st) σ k n := by
  obtain ⟨hx, hb, hown, HB, HE, hA, hml, hlk, hl0⟩ := C
  intro ρ H locs ls sw h1 h2 h3 h4 h5 h6
  obtain ⟨rr, sw', rfl, hr, h7⟩ := m_sr_r h6
  cases rr with
  | none => exact hr.elim
  | some a => exact W.objInit hx hb hown (HB _ hl) (HB _ hi) (HB _ hc) rfl (by show ls.size = _; rw [h5.1, hL, hml]) rfl hd hf (by rw [m_sr_sum h7]; show 2 * 0 + _ + 12 ≤ _; omega) (K ρ H locs ls _ h1 h2 h3 h4 h5 h7)
theorem m_j_math (C : m_C p l s m args meth cd cc own nL D ty A) {i : Nat} (hB : m_mathB own i r.2.2.1 r = true) (hini : Cond.initialized "java/lang/Math" ∈ m_BIG) (hf : 1 ≤ R.frames) (hL : L.length = nL) (hr : m_rm R k n) (hd : decode cc pc = .ok (.invokestatic i, 3)) {K : List mV → Prop} (h : m_s_math R r.2.2.1 st K) (hK : ∀ st, K st → m_J p l e R s m args below meth cd Qt A ρ0 (m_X D ty s xs) (pc + 3) L st σ k n) : m_J p l e R s m args below meth cd Qt A ρ0 (m_X D ty s xs) pc L st σ k n := by
  obtain ⟨hx, hb, hown, HB, HE, hA, hml, hlk, hl0⟩ := C
  intro ρ H locs ls sw h1 h2 h3 h4 h5 h6
  have hsz : cd.maxLocals = ls.size := by rw [h5.1, hL, hml]
  unfold m_s_math at h
  split at h
  · rename_i heq
    rw [heq] at hB
    simp only [m_mathB, Bool.and_eq_true] at hB
    obtain ⟨_, rfl, h7⟩ := m_sr_i h6
    obtain ⟨_, rfl, h8⟩ := m_sr_i h7
    exact va_mmax hx hb hsz hown (HB _ (m_wd_ok hB.1.1)) (HB _ (m_wd_ok hB.1.2)) (HB _ hini) (HB _ (m_wd_ok hB.2)) hf (by rw [m_sr_sum h8]; exact h.1) hr.1 hr.2 hd (hK _ h.2 ρ H locs ls _ h1 h2 h3 h4 h5 ⟨rfl, h8⟩)
  · rename_i heq
    rw [heq] at hB
    simp only [m_mathB, Bool.and_eq_true] at hB
    obtain ⟨_, rfl, h7⟩ := m_sr_i h6
    obtain ⟨_, rfl, h8⟩ := m_sr_i h7
    exact va_mmin hx hb hsz hown (HB _ (m_wd_ok hB.1.1)) (HB _ (m_wd_ok hB.1.2)) (HB _ hini) (HB _ (m_wd_ok hB.2)) hf (by rw [m_sr_sum h8]; exact h.1) hr.1 hr.2 hd (hK _ h.2 ρ H locs ls _ h1 h2 h3 h4 h5 ⟨rfl, h8⟩)
  · rename_i heq
    rw [heq] at hB
    simp only [m_mathB, Bool.and_eq_true] at hB
    obtain ⟨_, rfl, h8⟩ := m_sr_i h6
    exact va_mabs hx hb hsz hown (HB _ (m_wd_ok hB.1.1)) (HB _ (m_wd_ok hB.1.2)) (HB _ hini) (HB _ (m_wd_ok hB.2)) hf (by rw [m_sr_sum h8]; exact h.1) hr.1 hr.2 hd (hK _ h.2 ρ H locs ls _ h1 h2 h3 h4 h5 ⟨rfl, h8⟩)
  · rename_i heq
    rw [heq] at hB
    simp only [m_mathB, Bool.and_eq_true] at hB
    obtain ⟨_, rfl, h7⟩ := m_sr_l h6
    obtain ⟨_, rfl, h8⟩ := m_sr_l h7
    exact va_mmax_long hx hb hsz hown (HB _ (m_wd_ok hB.1.1)) (HB _ (m_wd_ok hB.1.2)) (HB _ hini) (HB _ (m_wd_ok hB.2)) hf (by rw [m_sr_sum h8]; exact h.1) hr.1 hr.2 hd (hK _ h.2 ρ H locs ls _ h1 h2 h3 h4 h5 ⟨rfl, h8⟩)
  · rename_i heq
    rw [heq] at hB
    simp only [m_mathB, Bool.and_eq_true] at hB
    obtain ⟨_, rfl, h7⟩ := m_sr_l h6
    obtain ⟨_, rfl, h8⟩ := m_sr_l h7
    exact va_mmin_long hx hb hsz hown (HB _ (m_wd_ok hB.1.1)) (HB _ (m_wd_ok hB.1.2)) (HB _ hini) (HB _ (m_wd_ok hB.2)) hf (by rw [m_sr_sum h8]; exact h.1) hr.1 hr.2 hd (hK _ h.2 ρ H locs ls _ h1 h2 h3 h4 h5 ⟨rfl, h8⟩)
  · exact h.elim
theorem m_xAt {ρ : Nat → Nat → Option Nat} {H : Heap} (h : m_X D ty s xs ρ σ H) {z : Nat × (Nat → Int32)} (hz : xs = some z) {i a : Nat} (ha : ρ 98 i = some a) : va_X a z.1 z.2 s H := by
  rcases h.2.2.2 98 i a ha with ⟨-, q, h2, h3⟩ | ⟨h1, -⟩
  · rw [hz] at h2
    cases h2
    exact h3
  · exact absurd rfl h1
theorem m_j_slen (C : m_C p l s m args meth cd cc own nL D ty A) {z : Nat × (Nat → Int32)} {v0 : mV} (hi : m_isx (v0 :: st) 0 = true) (hn0 : z.1 < 2147483648) (hd : decode cc pc = .ok (.arraylength, 1)) (K : m_J p l e R s m args below meth cd Qt A ρ0 (m_X D ty s (some z)) (pc + 1) L (.inl (Int32.ofNat z.1) :: st) σ k n) : m_J p l e R s m args below meth cd Qt A ρ0 (m_X D ty s (some z)) pc L (v0 :: st) σ k n := by
  obtain ⟨hx, hb, hown, HB, HE, hA, hml, hlk, hl0⟩ := C
  rcases v0 with a | a | _ | ⟨q1, q2⟩
  · cases hi
  · cases hi
  · cases hi
  · have e : q1 = 98 := Nat.eq_of_beq_eq_true hi
    subst e
    intro ρ H locs ls sw h1 h2 h3 h4 h5 h6
    obtain ⟨rr, sw', rfl, hr, h7⟩ := m_sr_r h6
    cases rr with
    | none => exact hr.elim
    | some a =>
      obtain ⟨scr, g1, g2, g3, g4, g5⟩ := m_xAt h2 rfl (show ρ 98 q2 = some a from hr)
      exact W.alen hx hb g1 g2 (by rw [g4]) rfl rfl hd (K ρ H locs ls _ h1 h2 h3 h4 h5 ⟨rfl, h7⟩)
theorem m_j_sld (C : m_C p l s m args meth cd cc own nL D ty A) {z : Nat × (Nat → Int32)} {v0 : mV} {x : Int32} (hi : m_isx (.inl x :: v0 :: st) 1 = true) (hin : vp_in x z.1) (hd : decode cc pc = .ok (.iaload, 1)) (K : m_J p l e R s m args below meth cd Qt A ρ0 (m_X D ty s (some z)) (pc + 1) L (.inl (z.2 x.toNatClampNeg) :: st) σ k n) : m_J p l e R s m args below meth cd Qt A ρ0 (m_X D ty s (some z)) pc L (.inl x :: v0 :: st) σ k n := by
  obtain ⟨hx, hb, hown, HB, HE, hA, hml, hlk, hl0⟩ := C
  rcases v0 with a | a | _ | ⟨q1, q2⟩
  · cases hi
  · cases hi
  · cases hi
  · have e : q1 = 98 := Nat.eq_of_beq_eq_true hi
    subst e
    intro ρ H locs ls sw h1 h2 h3 h4 h5 h6
    obtain ⟨_, rfl, u6⟩ := m_sr_i h6
    obtain ⟨rr, sw', rfl, hr, h7⟩ := m_sr_r u6
    cases rr with
    | none => exact hr.elim
    | some a =>
      obtain ⟨scr, g1, g2, g3, g4, g5⟩ := m_xAt h2 rfl (show ρ 98 q2 = some a from hr)
      exact W.iald hx hb g1 g2 g3 (by rw [g4]; exact hin) (g5 _ (Nat.not_le.mp fun q => hin (Or.inr q))) rfl rfl hd (K ρ H locs ls _ h1 h2 h3 h4 h5 ⟨rfl, h7⟩)
end MG
end
section
/-! the step holds of the machine: all instructions -/
theorem m_at_mem : ∀ {rows : List (Nat × mRow)} {pc : Nat} {r : mRow}, m_at rows pc = some r → (pc, r) ∈ rows
  | [], _, _, h => by cases h
  | q :: t, pc, r, h => by
    unfold m_at at h
    cases hb : Nat.beq q.1 pc with
    | true =>
      rw [hb] at h
      have e := Nat.eq_of_beq_eq_true hb
      have e2 : q.2 = r := Option.some.inj h
      subst e; subst e2
      exact List.mem_cons_self
    | false =>
      rw [hb] at h
      exact List.mem_cons_of_mem _ (m_at_mem h)
theorem m_aty_lt {j : Nat} {t : FieldType} (h : m_aty[j]? = some t) : j < 9 := (List.getElem?_eq_some_iff.mp h).1
theorem m_rowP_of {own : String} {s : State} {args : Array Value} {mt : List mMt} {ini : Bool} {cc : ByteArray} {R : Room} {pc : Nat} {r : mRow} (HB : ∀ w ∈ m_BIG, w.before args s = true) (hq : m_rowB mt own ini cc R (pc, r) = true) : m_rowP own s args pc r := by
  obtain ⟨ig, ln, ra, rb, rz, rp⟩ := r
  unfold m_rowB at hq
  rw [Bool.and_eq_true] at hq
  obtain ⟨-, hc⟩ := hq
  dsimp only at hc
  unfold m_rowP
  dsimp only
  split
  · exact of_decide_eq_true hc
  · exact of_decide_eq_true hc
  · exact of_decide_eq_true hc
  · exact of_decide_eq_true hc
  · exact of_decide_eq_true hc
  · exact of_decide_eq_true hc
  · dsimp only at hc
    simp only [Bool.and_eq_true, decide_eq_true_eq, List.all_eq_true] at hc
    exact hc
  · exact Or.inr (HB _ (m_wd_ok hc))
  · exact Or.inr (HB _ (m_wd_ok hc))
  · exact HB _ (m_wd_ok hc)
  · trivial
section MGO
variable {p : Program} {l : Launch} {e : Env} {R : Room} {s : State} {m : MethodId} {args : Array Value} {below : List Frame} {meth : Method} {cd : Code} {A : Nat → Prop} {ρ0 : Nat → Nat → Option Nat} {cc : ByteArray} {own : String} {D : va_G} {ty : List (ClassId × FieldType)} {xs : Option (Nat × (Nat → Int32))} {nL : Nat}
variable {pc k n mc ms : Nat} {L : List (Option mV)} {st : List mV} {σ : mS} {Q : mX → mS → Prop} {mt : List mMt} {rt : Option FieldType} {ini : Bool} {rows : List (Nat × mRow)}
theorem m_end_ret {T : mS → Nat → Nat → Nat → Prop} {K : Nat → List (Option mV) → List mV → mS → Nat → Nat → Prop} {st' : List mV} {y : mMt} {Qt : State → Prop} (hK : ∀ pc L st σ k n, K pc L st σ k n → m_J p l e R s m args below meth cd Qt A ρ0 (m_X D ty s xs) pc L st σ k n) (v : Option mV) (σ' : mS) (h : m_s_end T (fun st σ k n => K (pc + 3) L st σ k n) st' k n y (.inl v) σ') : m_J p l e R s m args below meth cd Qt A ρ0 (m_X D ty s xs) (pc + 3) L (v.toList ++ st') σ' (k + y.2.2.2.2.1.cells) (n + y.2.2.2.2.1.slots) := hK _ _ _ _ _ _ h
set_option maxHeartbeats 4000000 in
theorem m_go (C : m_C p l s m args meth cd cc own nL D ty A) (hex : own = RX11 → ∀ x ∈ cd.exceptionTable.toList, False) (hrt : meth.sig.returnType = rt) (hini : ini = true → meth.name = "<init>") (hok : ∀ q ∈ rows, m_rowB mt own ini cc R q = true) {K : Nat → List (Option mV) → List mV → mS → Nat → Nat → Prop}
    {T : Nat → List (Option mV) → mS → Nat → Nat → Nat → Prop} (h : m_step mt l rt R nL rows mc ms Q xs T K pc L st σ k n)
    (hT : ∀ pc L σ k n x, T pc L σ k n x → m_JX p l e R s m args below meth cd (vx_MQ below (m_Qc D ty xs A ρ0 Q) (m_XC D ty xs A ρ0 Q) args s mc ms A) A ρ0 (m_X D ty s xs) pc L σ k n x)
    (hK : ∀ pc L st σ k n, K pc L st σ k n → m_J p l e R s m args below meth cd (vx_MQ below (m_Qc D ty xs A ρ0 Q) (m_XC D ty xs A ρ0 Q) args s mc ms A) A ρ0 (m_X D ty s xs) pc L st σ k n) :
    m_J p l e R s m args below meth cd (vx_MQ below (m_Qc D ty xs A ρ0 Q) (m_XC D ty xs A ρ0 Q) args s mc ms A) A ρ0 (m_X D ty s xs) pc L st σ k n := by
  have C0 := C
  obtain ⟨hx, hb, hown, HB, HE, hA, hml, hlk, hl0⟩ := C
  unfold m_step at h
  cases hr : m_at rows pc with
  | none => rw [hr] at h; exact h.elim
  | some r =>
  rw [hr] at h
  have hq := hok (pc, r) (m_at_mem hr)
  obtain ⟨ig, ln, ra, rb, rz, rp⟩ := r
  have hq0 := hq
  unfold m_rowB at hq
  rw [Bool.and_eq_true] at hq
  obtain ⟨hd0, hc⟩ := hq
  have hd : decode cc pc = .ok (ig, m_len (ig, ln, ra, rb, rz, rp)) := of_decide_eq_true hd0
  clear hd0
  dsimp only at h hc
  split at h
  · -- getfield
    dsimp only at hc
    unfold m_s_get at h
    split at h
    · rename_i q st'
      obtain ⟨q1, q2⟩ := q
      obtain ⟨e1, h⟩ := h
      dsimp only at e1 h
      subst e1
      cases hv : m_cls[q1]? with
      | none => rw [hv] at hc; cases hc
      | some v =>
        rw [hv] at hc
        simp only [Bool.and_eq_true, decide_eq_true_eq] at hc
        exact m_j_get hx hb hown HB HE.1 hv hc.1 (m_lay hv) (HB _ (m_wd_ok hc.2)) hd (hK _ _ _ _ _ _ h)
    · exact h.elim
  · -- putfield
    dsimp only at hc
    unfold m_s_put at h
    split at h
    · rename_i x q st'
      obtain ⟨q1, q2⟩ := q
      obtain ⟨e1, e2, h⟩ := h
      dsimp only at e1 e2 h
      subst e1
      cases hv : m_cls[q1]? with
      | none => rw [hv] at hc; cases hc
      | some v =>
        rw [hv] at hc
        simp only [Bool.and_eq_true, Bool.or_eq_true, decide_eq_true_eq] at hc
        obtain ⟨⟨c1, c2⟩, c3⟩ := hc
        rcases c3 with c3 | ⟨c3, c4, c5⟩
        · exact m_j_put hx hb hown HB HE.1 hv c1 (m_lay hv) (HB _ (m_wd_ok c2)) c3 e2 hd (hK _ _ _ _ _ _ h)
        · exact m_j_putF hx hb hown HB HE.1 hv c1 (m_lay hv) (HB _ (m_wd_ok c2)) c4 (hini c3) c5 e2 hd (hK _ _ _ _ _ _ h)
    · exact h.elim
  · -- arraylength
    cases hx9 : m_isx st 0 with
    | true =>
      rw [hx9] at h
      dsimp only [cond_true] at h
      unfold m_s_xlen at h
      split at h
      · rename_i z v0 st'
        exact m_j_slen C0 hx9 h.1 hd (hK _ _ _ _ _ _ h.2)
      · exact h.elim
    | false =>
    rw [hx9] at h
    dsimp only [cond_false] at h
    unfold m_s_len at h
    split at h
    · rename_i q st'
      obtain ⟨q1, q2⟩ := q
      obtain ⟨⟨e1, e2⟩, h⟩ := h
      dsimp only at e1 e2 h
      obtain ⟨j, rfl⟩ : ∃ j, q1 = j + 13 := ⟨q1 - 13, by omega⟩
      exact m_j_alen hx hb hown HB HE.1 (by omega) hd (hK _ _ _ _ _ _ h)
    · exact h.elim
  · -- iaload
    cases hx9 : m_isx st 1 with
    | true =>
      rw [hx9] at h
      dsimp only [cond_true] at h
      unfold m_s_xld at h
      split at h
      · rename_i z x v0 st'
        exact m_j_sld C0 hx9 h.1 hd (hK _ _ _ _ _ _ h.2)
      · exact h.elim
    | false =>
    rw [hx9] at h
    dsimp only [cond_false] at h
    unfold m_s_ald at h
    split at h
    · rename_i x q st'
      obtain ⟨q1, q2⟩ := q
      obtain ⟨e1, e2, h⟩ := h
      dsimp only at e1 e2 h
      subst e1
      exact m_j_iald hx hb hown HB HE.1 HE.2.1 e2 hd (hK _ _ _ _ _ _ h)
    · exact h.elim
  · -- laload
    unfold m_s_ald at h
    split at h
    · rename_i x q st'
      obtain ⟨q1, q2⟩ := q
      obtain ⟨e1, e2, h⟩ := h
      dsimp only at e1 e2 h
      subst e1
      exact m_j_lald hx hb hown HB HE.1 HE.2.1 e2 hd (hK _ _ _ _ _ _ h)
    · exact h.elim
  · -- baload
    unfold m_s_ald at h
    split at h
    · rename_i x q st'
      obtain ⟨q1, q2⟩ := q
      obtain ⟨e1, e2, h⟩ := h
      dsimp only at e1 e2 h
      subst e1
      exact m_j_zald hx hb hown HB HE.1 HE.2.1 e2 hd (hK _ _ _ _ _ _ h)
    · exact h.elim
  · -- aaload
    unfold m_s_aldq at h
    split at h
    · rename_i x q st'
      obtain ⟨q1, q2⟩ := q
      obtain ⟨⟨e0, e1⟩, e2, h⟩ := h
      dsimp only at e0 e1 e2 h
      obtain ⟨j, rfl⟩ : ∃ j, q1 = j + 13 := ⟨q1 - 13, by omega⟩
      have hj : j < 9 := by omega
      have hl : m_aty[j]? = some (m_aty[j]'(by show j < 9; exact hj)) := List.getElem?_eq_getElem _
      refine m_j_aldq hx hb hown HB HE.1 HE.2.1 hj hl ?_ e2 hd (hK _ _ _ _ _ _ h)
      have : j = 3 ∨ j = 4 ∨ j = 5 ∨ j = 6 ∨ j = 7 ∨ j = 8 := by omega
      rcases this with rfl | rfl | rfl | rfl | rfl | rfl <;> rfl
    · exact h.elim
  · -- iastore
    unfold m_s_iast at h
    split at h
    · rename_i v x q st'
      obtain ⟨q1, q2⟩ := q
      obtain ⟨e1, e2, h⟩ := h
      dsimp only at e1 e2 h
      subst e1
      exact m_j_iast hx hb hown HB HE.1 HE.2.1 e2 hd (hK _ _ _ _ _ _ h)
    · exact h.elim
  · -- lastore
    unfold m_s_last at h
    split at h
    · rename_i v x q st'
      obtain ⟨q1, q2⟩ := q
      obtain ⟨e1, e2, h⟩ := h
      dsimp only at e1 e2 h
      subst e1
      exact m_j_last hx hb hown HB HE.1 HE.2.1 e2 hd (hK _ _ _ _ _ _ h)
    · exact h.elim
  · -- bastore
    unfold m_s_zast at h
    split at h
    · rename_i v x q st'
      obtain ⟨q1, q2⟩ := q
      obtain ⟨e1, e0, e2, h⟩ := h
      dsimp only at e1 e2 h
      subst e1
      exact m_j_zast hx hb hown HB HE.1 HE.2.1 e0 e2 hd (hK _ _ _ _ _ _ h)
    · exact h.elim
  · -- aastore
    unfold m_s_astq at h
    split at h
    · rename_i d x q st'
      obtain ⟨q1, q2⟩ := q
      obtain ⟨d1, d2⟩ := d
      obtain ⟨e0, ⟨e1, e3⟩, e2, h⟩ := h
      dsimp only at e0 e1 e3 e2 h
      have hq1 : q1 = 16 ∨ q1 = 17 ∨ q1 = 18 ∨ q1 = 19 ∨ q1 = 20 := by omega
      rcases hq1 with rfl | rfl | rfl | rfl | rfl <;> subst e0
      · exact m_j_astq (j := 3) (c := 6) hx hb hown HB HE.1 HE.2.1 (by decide) rfl rfl e2 hd (hK _ _ _ _ _ _ h)
      · exact m_j_astq (j := 4) (c := 7) hx hb hown HB HE.1 HE.2.1 (by decide) rfl rfl e2 hd (hK _ _ _ _ _ _ h)
      · exact m_j_astq (j := 5) (c := 8) hx hb hown HB HE.1 HE.2.1 (by decide) rfl rfl e2 hd (hK _ _ _ _ _ _ h)
      · exact m_j_astq (j := 6) (c := 9) hx hb hown HB HE.1 HE.2.1 (by decide) rfl rfl e2 hd (hK _ _ _ _ _ _ h)
      · exact m_j_astq (j := 7) (c := 10) hx hb hown HB HE.1 HE.2.1 (by decide) rfl rfl e2 hd (hK _ _ _ _ _ _ h)
    · exact h.elim
  · -- new
    rename_i idx
    dsimp only at hc
    by_cases hlt : ra < 13
    · rw [if_pos hlt] at h
      have hbl : Nat.blt ra 13 = true := by rw [Nat.blt_eq]; exact hlt
      rw [hbl] at hc
      dsimp only [cond_true] at hc
      cases hv : m_cls[ra]? with
      | none => rw [hv] at hc; cases hc
      | some v =>
        rw [hv] at hc
        simp only [Bool.and_eq_true] at hc
        have hnf : m_nf ra = v.2.2 := by unfold m_nf; rw [hv]
        rw [hnf] at h
        exact m_j_new hx hb hown HB HE.1 hA hv (m_lay hv) (HB _ (m_wd_ok hc.1.1)) (HB _ (m_wd_ok hc.1.2)) (HB _ (m_wd_ok hc.2)) h.1.1 h.1.2 hd (hK _ _ _ _ _ _ h.2)
    · rw [if_neg hlt] at h
      have hbl : Nat.blt ra 13 = false := by
        cases hq : Nat.blt ra 13 with
        | false => rfl
        | true => exact absurd (by rw [Nat.blt_eq] at hq; exact hq) hlt
      rw [hbl] at hc
      dsimp only [cond_false] at hc
      simp only [Bool.and_eq_true, Bool.or_eq_true, decide_eq_true_eq, List.any_eq_true] at hc
      obtain ⟨⟨⟨⟨co, c1, c2, ci⟩, t, ht, ht2⟩, cd3⟩, c6⟩ := hc
      obtain ⟨hL, hRf, hRl, hrm, hk, hn, hQ⟩ := h
      subst co
      subst ci
      have ht' : t = (RX11, rb, t.2.2) := by
        have hall : ∀ t ∈ m_strs, t.1 = RX11 := by decide +kernel
        rw [← ht2, ← hall t ht]
      rw [ht'] at ht
      rcases c6 with ⟨⟨c4, c5⟩, c6⟩ | ⟨⟨c4, c5⟩, c6⟩
      · exact m_j_throw C0 (hex rfl) (x := ra - 100) (by omega) ht hL hd cd3 c4 c5 c6 hRf hRl hrm.1 hrm.2 hk hn hQ
      · exact m_j_throwW C0 (hex rfl) (x := ra - 100) (by omega) ht hL hd cd3 c4 c5 c6 hRf hRl hrm.1 hrm.2 hk hn hQ
  · -- newarray
    rename_i t
    dsimp only at hc
    simp only [Bool.and_eq_true, decide_eq_true_eq] at hc
    obtain ⟨⟨c1, c2, c3⟩, c4⟩ := hc
    unfold m_s_newa at h
    split at h
    · rename_i x st'
      obtain ⟨e1, e2, e3, h⟩ := h
      dsimp only at h
      obtain ⟨j, rfl⟩ : ∃ j, ra = j + 13 := ⟨ra - 13, by omega⟩
      rw [Nat.add_sub_cancel] at c3
      refine m_j_newa hx hb hown HB HE.1 HE.2.1 hA (by omega) c3 (HB _ (m_wd_ok c4)) e1 ?_ e3.1 e3.2 hd (hK _ _ _ _ _ _ h)
      have : componentBytes (newarray.typeOf t) ≤ 8 := by cases t <;> decide
      exact Nat.le_trans (Nat.mul_le_mul e2 this) (by decide)
    · exact h.elim
  · -- anewarray
    rename_i idx
    dsimp only at hc
    simp only [Bool.and_eq_true, decide_eq_true_eq] at hc
    obtain ⟨⟨c1, c2⟩, c3⟩ := hc
    cases hv : m_cls[m_el ra]? with
    | none => rw [hv] at c3; cases c3
    | some v =>
      rw [hv] at c3
      simp only [Bool.and_eq_true, decide_eq_true_eq] at c3
      unfold m_s_newa at h
      split at h
      · rename_i x st'
        obtain ⟨e1, e2, e3, h⟩ := h
        dsimp only at h
        obtain ⟨j, rfl⟩ : ∃ j, ra = j + 13 := ⟨ra - 13, by omega⟩
        rw [Nat.add_sub_cancel] at c3
        exact m_j_newq C0 (by omega) hv c3.1.1 (m_wd_ok c3.1.2) (m_od_ok c3.2) e1 (by omega) e3 hd (hK _ _ _ _ _ _ h)
      · exact h.elim
  · -- invokevirtual
    rename_i idx
    dsimp only at hc
    obtain ⟨hL, h⟩ := h
    cases hy : mt[ra]? with
    | none => rw [hy] at h; exact h.elim
    | some y =>
      rw [hy] at h hc
      dsimp only at h hc
      cases hv : m_cls[m_p (.invokevirtual idx, ln, ra, rb, rz, rp) 5]? with
      | none => rw [hv] at hc; cases hc
      | some v =>
        rw [hv] at hc
        simp only [Bool.and_eq_true, decide_eq_true_eq, m_callB] at hc
        obtain ⟨⟨⟨⟨⟨c1, c2⟩, c3⟩, c4⟩, c9⟩, ⟨⟨c5, c6⟩, c7⟩, c8⟩ := hc
        obtain ⟨y1, y2, y3, y4, y5, hh⟩ := y
        have hh0 : hh = [] := List.isEmpty_iff.mp c9
        subst hh0
        unfold m_s_callV at h
        split at h
        · rename_i q st' hst
          obtain ⟨q1, q2⟩ := q
          obtain ⟨e1, e2, e3, e4, h⟩ := h
          dsimp only at e1 h hst
          subst e1
          have hst2 : st = (m_take st (.invokevirtual idx, ln, ra, rb, rz, rp)).reverse ++ .inr (.inr (some (m_p (.invokevirtual idx, ln, ra, rb, rz, rp) 5, q2))) :: st' := by
            rw [m_take, List.reverse_reverse, ← hst]; exact (List.take_append_drop _ _).symm
          have hlen : (m_take st (.invokevirtual idx, ln, ra, rb, rz, rp)).length = rb := by rw [m_take, List.length_reverse]; exact e2
          rw [hst2]
          have h : m_Con l y1 (m_W y1 y2 y3 y4) y5 y5.cells y5.slots _ σ _ := h
          exact m_j_callV C0 hv h (m_wd_ok c2) (m_wd_ok c3) (m_wd_ok c4) (m_wd_ok c6) (m_wd_ok c5) ⟨c7.1, c7.2.1, by rw [c7.2.2, hlen]⟩ ⟨rfl, rfl, c8.1, c8.2⟩ hL e3 e4 (m_end_ret hK) (fun x σ' hq => hT _ _ _ _ _ _ hq) hd
        · exact h.elim
  · -- invokespecial
    rename_i idx
    dsimp only at hc
    obtain ⟨hL, h⟩ := h
    by_cases h2000 : ra = 2000
    · rw [if_pos h2000] at h
      have hbq : Nat.beq ra 2000 = true := by rw [h2000]; rfl
      rw [hbq] at hc
      dsimp only [cond_true] at hc
      simp only [Bool.and_eq_true, decide_eq_true_eq] at hc
      unfold m_s_obj at h
      split at h
      · rename_i q st'
        exact m_j_obj C0 (m_wd_ok hc.1.1.1) (m_wd_ok hc.1.1.2) (m_wd_ok hc.1.2) hL hc.2 h.1 hd (hK _ _ _ _ _ _ h.2)
      · exact h.elim
    · rw [if_neg h2000] at h
      have hbq : Nat.beq ra 2000 = false := by
        cases hq : Nat.beq ra 2000 with
        | false => rfl
        | true => exact absurd (Nat.eq_of_beq_eq_true hq) h2000
      rw [hbq] at hc
      dsimp only [cond_false] at hc
      cases hy : mt[ra]? with
      | none => rw [hy] at h; exact h.elim
      | some y =>
        rw [hy] at h hc
        dsimp only at h hc
        cases hv : m_cls[m_p (.invokespecial idx, ln, ra, rb, rz, rp) 5]? with
        | none => rw [hv] at hc; cases hc
        | some v =>
          rw [hv] at hc
          simp only [Bool.and_eq_true, Bool.or_eq_true, decide_eq_true_eq, m_callB] at hc
          obtain ⟨⟨⟨⟨⟨c0, c1, cr⟩, c9⟩, c2⟩, c3⟩, ⟨⟨c5, c6⟩, c7⟩, c8⟩ := hc
          obtain ⟨y1, y2, y3, y4, y5, hh⟩ := y
          have hh0 : hh = [] := List.isEmpty_iff.mp c9
          subst hh0
          dsimp only at cr
          subst cr
          unfold m_s_callV at h
          split at h
          · rename_i q st' hst
            obtain ⟨q1, q2⟩ := q
            obtain ⟨e1, e2, e3, e4, h⟩ := h
            dsimp only at e1 h hst
            subst e1
            have hst2 : st = (m_take st (.invokespecial idx, ln, ra, rb, rz, rp)).reverse ++ .inr (.inr (some (m_p (.invokespecial idx, ln, ra, rb, rz, rp) 5, q2))) :: st' := by
              rw [m_take, List.reverse_reverse, ← hst]; exact (List.take_append_drop _ _).symm
            have hlen : (m_take st (.invokespecial idx, ln, ra, rb, rz, rp)).length = rb := by rw [m_take, List.length_reverse]; exact e2
            rw [hst2]
            have h : m_Con l y1 (m_W y1 y2 y3 none) y5 y5.cells y5.slots _ σ _ := h
            rcases c2 with c2 | c2
            · exact m_j_callI (rt := none) C0 hv h (m_wd_ok c2) (m_wd_ok c3) c1 (m_wd_ok c6) (m_wd_ok c5) ⟨c7.1, c7.2.1, by rw [c7.2.2, hlen]⟩ ⟨rfl, rfl, c8.1, c8.2⟩ hL e3 e4 (m_end_ret hK) (fun x σ' hq => hT _ _ _ _ _ _ hq) hd
            · exact m_j_callIN (rt := none) C0 hv h (m_od_ok c2) (m_wd_ok c3) c1 (m_wd_ok c6) (m_wd_ok c5) ⟨c7.1, c7.2.1, by rw [c7.2.2, hlen]⟩ ⟨rfl, rfl, c8.1, c8.2⟩ hL e3 e4 (m_end_ret hK) (fun x σ' hq => hT _ _ _ _ _ _ hq) hd
          · exact h.elim
  · -- invokestatic
    rename_i idx
    dsimp only at hc
    obtain ⟨hL, hrm, h⟩ := h
    by_cases h1000 : 1000 ≤ ra
    · rw [if_pos h1000] at h
      have hbq : Nat.ble 1000 ra = true := by rw [Nat.ble_eq]; exact h1000
      rw [hbq] at hc
      dsimp only [cond_true] at hc
      simp only [Bool.and_eq_true, decide_eq_true_eq] at hc
      exact m_j_math (r := (.invokestatic idx, ln, ra, rb, rz, rp)) C0 hc.1.1 (m_wd_ok hc.1.2) hc.2 hL hrm hd h (fun st h => hK _ _ _ _ _ _ h)
    · rw [if_neg h1000] at h
      have hbq : Nat.ble 1000 ra = false := by
        cases hq : Nat.ble 1000 ra with
        | false => rfl
        | true => exact absurd (by rw [Nat.ble_eq] at hq; exact hq) h1000
      rw [hbq] at hc
      dsimp only [cond_false] at hc
      cases hy : mt[ra]? with
      | none => rw [hy] at h; exact h.elim
      | some y =>
        rw [hy] at h hc
        dsimp only at h hc
        simp only [Bool.and_eq_true, decide_eq_true_eq, m_callB] at hc
        obtain ⟨⟨c2, c3⟩, ⟨⟨c5, c6⟩, c7⟩, c8⟩ := hc
        unfold m_s_callS at h
        obtain ⟨e2, e3, e4, h⟩ := h
        have hst2 : st = (m_take st (.invokestatic idx, ln, ra, rb, rz, rp)).reverse ++ st.drop rb := by
          rw [m_take, List.reverse_reverse]; exact (List.take_append_drop _ _).symm
        have hlen : (m_take st (.invokestatic idx, ln, ra, rb, rz, rp)).length = rb := by rw [m_take, List.length_reverse]; exact e2
        rw [hst2]
        obtain ⟨y1, y2, y3, y4, y5, hh⟩ := y
        cases hh with
        | nil =>
          have h : m_Con l y1 (m_W y1 y2 y3 y4) y5 y5.cells y5.slots _ σ _ := h
          exact m_j_callS C0 h (m_wd_ok c2) (m_wd_ok c3) (m_wd_ok c6) (m_wd_ok c5) ⟨c7.1, c7.2.1, by rw [c7.2.2, hlen]⟩ ⟨rfl, rfl, c8.1, c8.2⟩ hL e3 e4 (m_end_ret hK) (fun x σ' hq => hT _ _ _ _ _ _ hq) hd
        | cons h0 ht =>
          have h : m_Con l y1 (Cond.codeWith y1 y2 y3 y4 (h0 :: ht) :: m_BIG) y5 y5.cells y5.slots _ σ _ := h
          exact m_j_callSX C0 h (m_wd_ok c2) (m_wd_ok c3) (m_wd_ok c6) (m_wd_ok c5) ⟨c7.1, c7.2.1, by rw [c7.2.2, hlen]⟩ ⟨rfl, rfl, c8.1, c8.2⟩ hL e3 e4 (m_end_ret hK) (fun x σ' hq => hT _ _ _ _ _ _ hq) hd
  · -- ireturn
    obtain ⟨hk, hn, h⟩ := h
    unfold m_s_iret at h
    split at h
    · rename_i v
      obtain ⟨h1, h⟩ := h
      rcases h1 with h1 | ⟨h1, hz⟩
      · exact m_j_zret hx hb (hrt.trans h1) rfl hlk hd hk hn h
      · exact m_j_zret hx hb (hrt.trans h1) (m_narrow_z hz) hlk hd hk hn h
    · exact h.elim
  · -- lreturn
    obtain ⟨hk, hn, h⟩ := h
    unfold m_s_lret at h
    split at h
    · rename_i v
      exact m_j_lret hx hb (hrt.trans h.1) hlk hd hk hn h.2
    · exact h.elim
  · -- areturn
    dsimp only at hc
    obtain ⟨hk, hn, h⟩ := h
    unfold m_s_aret at h
    split at h
    · rename_i v
      refine m_j_aret hx hb (rt := rt.getD .int) (hrt.trans ?_) ?_ hlk hd hk hn h.2
      · cases rt with
        | none => exact absurd h.1 (by decide)
        | some z => rfl
      · cases rt with
        | none => exact absurd h.1 (by decide)
        | some z => cases z <;> first | exact Or.inl ⟨_, rfl⟩ | exact Or.inr ⟨_, rfl⟩ | exact absurd h.1 (by decide)
    · exact h.elim
  · -- return
    obtain ⟨hk, hn, h1, h2, h⟩ := h
    subst h2
    exact m_j_vret hx hb (hrt.trans h1) hlk hd hk hn h
  · -- else
    have hP := m_rowP_of HB hq0
    unfold m_s_bare at h
    cases hcd : m_cond (ig, ln, ra, rb, rz, rp) st with
    | some z =>
      obtain ⟨P, st'⟩ := z
      rw [hcd] at h
      exact m_j_cond hx hb hd hP hcd (fun ρ σ H hX => hX.1) (fun z => hK _ _ _ _ _ _ (h.1 z)) (fun z => hK _ _ _ _ _ _ (h.2 z))
    | none =>
      rw [hcd] at h
      dsimp only at h
      cases hp : m_pure (ig, ln, ra, rb, rz, rp) pc L st with
      | none => rw [hp] at h; exact h.elim
      | some z =>
        obtain ⟨pc', L', st'⟩ := z
        rw [hp] at h
        exact m_j_pure hx hb hown hd hP hp (hK _ _ _ _ _ _ h)
end MGO
section MGR
variable {p : Program} {l : Launch} {e : Env} {R : Room} {s : State} {m : MethodId} {args : Array Value} {below : List Frame} {meth : Method} {cd : Code} {A : Nat → Prop} {ρ0 : Nat → Nat → Option Nat} {cc : ByteArray} {own : String} {D : va_G} {ty : List (ClassId × FieldType)} {xs : Option (Nat × (Nat → Int32))} {nL : Nat}
variable {mc ms : Nat} {Q : mX → mS → Prop} {mt : List mMt} {rt : Option FieldType} {ini : Bool} {rows : List (Nat × mRow)}
/-- many steps -/
theorem m_goes (C : m_C p l s m args meth cd cc own nL D ty A) (hex : own = RX11 → ∀ x ∈ cd.exceptionTable.toList, False) (hrt : meth.sig.returnType = rt) (hini : ini = true → meth.name = "<init>") (hok : ∀ q ∈ rows, m_rowB mt own ini cc R q = true) {T : Nat → List (Option mV) → mS → Nat → Nat → Nat → Prop} (hT : ∀ pc L σ k n x, T pc L σ k n x → m_JX p l e R s m args below meth cd (vx_MQ below (m_Qc D ty xs A ρ0 Q) (m_XC D ty xs A ρ0 Q) args s mc ms A) A ρ0 (m_X D ty s xs) pc L σ k n x) {cuts : List Nat} {K : Nat → List (Option mV) → List mV → mS → Nat → Nat → Prop}
    (hK : ∀ pc L st σ k n, K pc L st σ k n → m_J p l e R s m args below meth cd (vx_MQ below (m_Qc D ty xs A ρ0 Q) (m_XC D ty xs A ρ0 Q) args s mc ms A) A ρ0 (m_X D ty s xs) pc L st σ k n) :
    ∀ (f pc : Nat) (L : List (Option mV)) (st : List mV) (σ : mS) (k n : Nat), m_run mt l rt R nL rows mc ms Q xs T K cuts f pc L st σ k n → m_J p l e R s m args below meth cd (vx_MQ below (m_Qc D ty xs A ρ0 Q) (m_XC D ty xs A ρ0 Q) args s mc ms A) A ρ0 (m_X D ty s xs) pc L st σ k n
  | 0, pc, L, st, σ, k, n, h => hK _ _ _ _ _ _ h
  | f + 1, pc, L, st, σ, k, n, h => by
    have h' : (bif cuts.contains pc then K pc L st σ k n else m_step mt l rt R nL rows mc ms Q xs T (m_run mt l rt R nL rows mc ms Q xs T K cuts f) pc L st σ k n) := h
    cases hc : cuts.contains pc with
    | true => rw [hc] at h'; exact hK _ _ _ _ _ _ h'
    | false => rw [hc] at h'; exact m_go C hex hrt hini hok h' hT (m_goes C hex hrt hini hok hT hK f)
end MGR
end
section
/-! the methods, by their numbers -/
def m_yfm : MethodName := ⟨"java/lang/Math", "floorMod", "(II)I"⟩
def m_mt : List mMt := [
  (yX0_init, cX0_init, 2, none, { frames := 2, cells := 121, slots := 1680, locals := 41 }, []),
  (yX0_clear, cX0_clear, 1, none, { frames := 0, cells := 0, slots := 0, locals := 0 }, []),
  (yX0_hasRoom, cX0_hasRoom, 1, (some .boolean), { frames := 0, cells := 0, slots := 0, locals := 0 }, []),
  (yX0_orderAt, cX0_orderAt, 2, (some (.object "NettingHall$Order")), { frames := 0, cells := 0, slots := 0, locals := 0 }, []),
  (yX0_add, cX0_add, 7, (some (.object "NettingHall$Order")), { frames := 0, cells := 0, slots := 0, locals := 0 }, []),
  (yX0_letStand, cX0_letStand, 2, none, { frames := 1, cells := 0, slots := 0, locals := 20 }, []),
  (yX0_firstOf, cX0_firstOf, 6, (some (.object "NettingHall$Order")), { frames := 1, cells := 0, slots := 0, locals := 22 }, []),
  (yX0_shownAt, cX0_shownAt, 7, (some .int), { frames := 1, cells := 0, slots := 0, locals := 22 }, []),
  (yX0_sumGoodFor, cX0_sumGoodFor, 8, (some .int), { frames := 1, cells := 0, slots := 0, locals := 22 }, []),
  (yX0_mostAt, cX0_mostAt, 3, (some .int), { frames := 2, cells := 0, slots := 0, locals := 49 }, []),
  (yX0_openingPrice, cX0_openingPrice, 6, (some .int), { frames := 3, cells := 0, slots := 0, locals := 80 }, []),
  (yX0_opensBetter, cX0_opensBetter, 12, (some .boolean), { frames := 2, cells := 0, slots := 0, locals := 49 }, []),
  (yX0_useShown, cX0_useShown, 3, none, { frames := 2, cells := 0, slots := 0, locals := 41 }, []),
  (yX0_useAll, cX0_useAll, 3, none, { frames := 1, cells := 0, slots := 0, locals := 20 }, []),
  (yX0_takeAwayOf, cX0_takeAwayOf, 3, none, { frames := 1, cells := 0, slots := 0, locals := 20 }, []),
  (yX0_divide, cX0_divide, 4, none, { frames := 3, cells := 0, slots := 0, locals := 65 }, []),
  (yX0_firstToWake, cX0_firstToWake, 5, (some (.object "NettingHall$Order")), { frames := 1, cells := 0, slots := 0, locals := 21 }, []),
  (yX0_isSameAs, cX0_isSameAs, 4, (some .boolean), { frames := 2, cells := 0, slots := 0, locals := 41 }, []),
  (yX1_init, cX1_init, 5, none, { frames := 1, cells := 0, slots := 0, locals := 20 }, []),
  (yX1_with, cX1_with, 5, (some (.object "NettingHall$Call")), { frames := 0, cells := 0, slots := 0, locals := 0 }, []),
  (yX2_init, cX2_init, 2, none, { frames := 2, cells := 223, slots := 2335, locals := 41 }, []),
  (yX2_clear, cX2_clear, 5, none, { frames := 1, cells := 0, slots := 0, locals := 21 }, []),
  (yX2_memberAt, cX2_memberAt, 2, (some (.object "NettingHall$Member")), { frames := 0, cells := 0, slots := 0, locals := 0 }, []),
  (yX2_holderAt, cX2_holderAt, 2, (some (.object "NettingHall$Member")), { frames := 1, cells := 0, slots := 0, locals := 21 }, []),
  (yX2_paperAt, cX2_paperAt, 2, (some (.object "NettingHall$Paper")), { frames := 0, cells := 0, slots := 0, locals := 0 }, []),
  (yX2_tradeAt, cX2_tradeAt, 2, (some (.object "NettingHall$Trade")), { frames := 0, cells := 0, slots := 0, locals := 0 }, []),
  (yX2_hasFailed, cX2_hasFailed, 3, (some .boolean), { frames := 1, cells := 0, slots := 0, locals := 21 }, []),
  (yX2_isContinuous, cX2_isContinuous, 3, (some .boolean), { frames := 1, cells := 0, slots := 0, locals := 21 }, []),
  (yX2_hasRoomFor, cX2_hasRoomFor, 2, (some .boolean), { frames := 0, cells := 0, slots := 0, locals := 0 }, []),
  (yX2_payDeposit, cX2_payDeposit, 4, (some .long), { frames := 1, cells := 0, slots := 0, locals := 21 }, []),
  (yX2_payShare, cX2_payShare, 4, (some .long), { frames := 2, cells := 0, slots := 0, locals := 42 }, []),
  (yX2_addScenario, cX2_addScenario, 5, (some .int), { frames := 0, cells := 0, slots := 0, locals := 0 }, []),
  (yX2_makeTrade, cX2_makeTrade, 16, none, { frames := 1, cells := 0, slots := 0, locals := 25 }, []),
  (yX2_canBeBroken, cX2_canBeBroken, 2, (some .boolean), { frames := 2, cells := 0, slots := 0, locals := 43 }, []),
  (yX2_undoTrade, cX2_undoTrade, 10, none, { frames := 1, cells := 0, slots := 0, locals := 25 }, []),
  (yX2_hasTraded, cX2_hasTraded, 8, (some .boolean), { frames := 0, cells := 0, slots := 0, locals := 0 }, []),
  (yX2_divide, cX2_divide, 7, none, { frames := 3, cells := 0, slots := 0, locals := 65 }, []),
  (yX2_payDividend, cX2_payDividend, 9, (some .long), { frames := 2, cells := 0, slots := 0, locals := 48 }, []),
  (yX2_payDividendTo, cX2_payDividendTo, 6, (some .long), { frames := 1, cells := 0, slots := 0, locals := 23 }, []),
  (yX2_worthOf, cX2_worthOf, 8, (some .long), { frames := 1, cells := 0, slots := 0, locals := 21 }, []),
  (yX2_marginOf, cX2_marginOf, 5, (some .long), { frames := 2, cells := 0, slots := 0, locals := 46 }, []),
  (yX2_lossBy, cX2_lossBy, 6, (some .long), { frames := 1, cells := 0, slots := 0, locals := 21 }, []),
  (yX2_reviewCalls, cX2_reviewCalls, 6, none, { frames := 3, cells := 0, slots := 0, locals := 70 }, []),
  (yX2_nextToFail, cX2_nextToFail, 5, (some (.object "NettingHall$Member")), { frames := 0, cells := 0, slots := 0, locals := 0 }, []),
  (yX2_letFail, cX2_letFail, 10, none, { frames := 4, cells := 0, slots := 0, locals := 115 }, []),
  (yX2_sellOut, cX2_sellOut, 10, (some .long), { frames := 4, cells := 0, slots := 0, locals := 115 }, []),
  (yX2_settleFailed, cX2_settleFailed, 14, (some .long), { frames := 3, cells := 0, slots := 0, locals := 82 }, []),
  (yX2_takeShare, cX2_takeShare, 6, (some .long), { frames := 1, cells := 0, slots := 0, locals := 23 }, []),
  (yX2_takeFromOthers, cX2_takeFromOthers, 15, (some .long), { frames := 2, cells := 0, slots := 0, locals := 48 }, []),
  (yX2_isSameAs, cX2_isSameAs, 4, (some .boolean), { frames := 2, cells := 0, slots := 0, locals := 44 }, []),
  (yX3_init, cX3_init, 2, none, { frames := 3, cells := 17, slots := 3918, locals := 60 }, []),
  (yX3_keyOf, cX3_keyOf, 1, (some .int), { frames := 0, cells := 0, slots := 0, locals := 0 }, []),
  (yX3_readerAt, cX3_readerAt, 2, (some (.object "NettingHall$Reader")), { frames := 0, cells := 0, slots := 0, locals := 0 }, []),
  (yX3_tell, cX3_tell, 4, none, { frames := 3, cells := 0, slots := 0, locals := 70 }, []),
  (yX3_addMessage, cX3_addMessage, 4, none, { frames := 1, cells := 0, slots := 0, locals := 22 }, []),
  (yX3_readNext, cX3_readNext, 3, (some .int), { frames := 2, cells := 0, slots := 0, locals := 46 }, []),
  (yX3_loseNext, cX3_loseNext, 2, (some .int), { frames := 0, cells := 0, slots := 0, locals := 0 }, []),
  (yX3_copyAll, cX3_copyAll, 2, (some .int), { frames := 1, cells := 0, slots := 0, locals := 22 }, []),
  (yX4_init, cX4_init, 1, none, { frames := 3, cells := 346, slots := 4029, locals := 62 }, []),
  (yX4_clear, cX4_clear, 1, none, { frames := 2, cells := 0, slots := 0, locals := 45 }, []),
  (yX4_isSameAs, cX4_isSameAs, 2, (some .boolean), { frames := 3, cells := 0, slots := 0, locals := 67 }, []),
  (yX4_perform, cX4_perform, 4, (some .long), { frames := 6, cells := 0, slots := 0, locals := 167 }, []),
  (yX4_changePaper, cX4_changePaper, 3, (some .long), { frames := 5, cells := 0, slots := 0, locals := 132 }, []),
  (yX4_moveMoney, cX4_moveMoney, 2, (some .long), { frames := 5, cells := 0, slots := 0, locals := 144 }, []),
  (yX4_letOrderCome, cX4_letOrderCome, 9, (some .int), { frames := 4, cells := 0, slots := 0, locals := 113 }, []),
  (yX4_letStopWait, cX4_letStopWait, 3, (some .int), { frames := 1, cells := 0, slots := 0, locals := 26 }, []),
  (yX4_enter, cX4_enter, 7, none, { frames := 3, cells := 0, slots := 0, locals := 87 }, []),
  (yX4_tradeWith, cX4_tradeWith, 8, none, { frames := 2, cells := 0, slots := 0, locals := 60 }, []),
  (yX4_takeAway, cX4_takeAway, 1, none, { frames := 1, cells := 0, slots := 0, locals := 20 }, []),
  (yX4_wakeStops, cX4_wakeStops, 5, none, { frames := 4, cells := 0, slots := 0, locals := 113 }, []),
  (yX4_tieOrders, cX4_tieOrders, 5, (some .int), { frames := 1, cells := 0, slots := 0, locals := 21 }, []),
  (yX4_cancelOrder, cX4_cancelOrder, 5, (some .int), { frames := 1, cells := 0, slots := 0, locals := 27 }, []),
  (yX4_letSpreadCome, cX4_letSpreadCome, 10, (some .int), { frames := 4, cells := 0, slots := 0, locals := 92 }, []),
  (yX4_tradeSpread, cX4_tradeSpread, 10, (some .int), { frames := 3, cells := 0, slots := 0, locals := 63 }, []),
  (yX4_openPaper, cX4_openPaper, 8, (some .int), { frames := 4, cells := 0, slots := 0, locals := 105 }, []),
  (yX4_tradeInOpening, cX4_tradeInOpening, 7, (some .int), { frames := 2, cells := 0, slots := 0, locals := 60 }, []),
  (yX4_passTicks, cX4_passTicks, 4, (some .int), { frames := 5, cells := 0, slots := 0, locals := 144 }, []),
  (yX5_init, cX5_init, 1, none, { frames := 1, cells := 2, slots := 960, locals := 20 }, []),
  (yX5_quantityAt, cX5_quantityAt, 3, (some .int), { frames := 1, cells := 0, slots := 0, locals := 22 }, []),
  (yX5_keyAbove, cX5_keyAbove, 3, (some .int), { frames := 1, cells := 0, slots := 0, locals := 22 }, []),
  (yX5_placeOf, cX5_placeOf, 3, (some .int), { frames := 0, cells := 0, slots := 0, locals := 0 }, []),
  (yX5_put, cX5_put, 5, none, { frames := 1, cells := 0, slots := 0, locals := 22 }, []),
  (yX5_makeGapAt, cX5_makeGapAt, 3, none, { frames := 0, cells := 0, slots := 0, locals := 0 }, []),
  (yX5_closeGapAt, cX5_closeGapAt, 3, none, { frames := 0, cells := 0, slots := 0, locals := 0 }, []),
  (yX5_takeOver, cX5_takeOver, 3, none, { frames := 0, cells := 0, slots := 0, locals := 0 }, []),
  (yX5_collect, cX5_collect, 5, none, { frames := 2, cells := 0, slots := 0, locals := 46 }, []),
  (yX5_nextDifference, cX5_nextDifference, 7, (some .int), { frames := 2, cells := 0, slots := 0, locals := 44 }, []),
  (yX5_differencesFrom, cX5_differencesFrom, 5, (some .int), { frames := 3, cells := 0, slots := 0, locals := 70 }, []),
  (yX6_init, cX6_init, 2, none, { frames := 1, cells := 1, slots := 3, locals := 20 }, []),
  (yX6_clear, cX6_clear, 2, none, { frames := 0, cells := 0, slots := 0, locals := 0 }, []),
  (yX6_positionIn, cX6_positionIn, 2, (some .long), { frames := 0, cells := 0, slots := 0, locals := 0 }, []),
  (yX6_take, cX6_take, 6, none, { frames := 0, cells := 0, slots := 0, locals := 0 }, []),
  (yX6_holdsNothing, cX6_holdsNothing, 6, (some .boolean), { frames := 0, cells := 0, slots := 0, locals := 0 }, []),
  (yX6_condition, cX6_condition, 1, (some .int), { frames := 0, cells := 0, slots := 0, locals := 0 }, []),
  (yX6_amountOf, cX6_amountOf, 2, (some .long), { frames := 0, cells := 0, slots := 0, locals := 0 }, []),
  (yX6_rate, cX6_rate, 1, (some .int), { frames := 0, cells := 0, slots := 0, locals := 0 }, []),
  (yX6_isSameAs, cX6_isSameAs, 4, (some .boolean), { frames := 1, cells := 0, slots := 0, locals := 21 }, []),
  (yX7_init, cX7_init, 2, none, { frames := 1, cells := 0, slots := 0, locals := 20 }, []),
  (yX7_isGone, cX7_isGone, 1, (some .boolean), { frames := 0, cells := 0, slots := 0, locals := 0 }, []),
  (yX7_stands, cX7_stands, 1, (some .boolean), { frames := 0, cells := 0, slots := 0, locals := 0 }, []),
  (yX7_standsIn, cX7_standsIn, 3, (some .boolean), { frames := 0, cells := 0, slots := 0, locals := 0 }, []),
  (yX7_canBeTied, cX7_canBeTied, 1, (some .boolean), { frames := 0, cells := 0, slots := 0, locals := 0 }, []),
  (yX7_isAheadOf, cX7_isAheadOf, 2, (some .boolean), { frames := 0, cells := 0, slots := 0, locals := 0 }, []),
  (yX7_isGoodFor, cX7_isGoodFor, 2, (some .boolean), { frames := 0, cells := 0, slots := 0, locals := 0 }, []),
  (yX7_wakesAt, cX7_wakesAt, 2, (some .boolean), { frames := 0, cells := 0, slots := 0, locals := 0 }, []),
  (yX7_showAnew, cX7_showAnew, 1, none, { frames := 0, cells := 0, slots := 0, locals := 0 }, []),
  (yX7_goAway, cX7_goAway, 1, none, { frames := 0, cells := 0, slots := 0, locals := 0 }, []),
  (yX7_divideBy, cX7_divideBy, 2, none, { frames := 2, cells := 0, slots := 0, locals := 44 }, []),
  (yX7_isSameAs, cX7_isSameAs, 2, (some .boolean), { frames := 1, cells := 0, slots := 0, locals := 20 }, []),
  (yX7_tiedNumber, cX7_tiedNumber, 1, (some .int), { frames := 0, cells := 0, slots := 0, locals := 0 }, []),
  (yX8_init, cX8_init, 2, none, { frames := 1, cells := 0, slots := 0, locals := 20 }, []),
  (yX8_clear, cX8_clear, 1, none, { frames := 0, cells := 0, slots := 0, locals := 0 }, []),
  (yX8_wakesStops, cX8_wakesStops, 1, (some .boolean), { frames := 0, cells := 0, slots := 0, locals := 0 }, []),
  (yX8_isTooFar, cX8_isTooFar, 2, (some .boolean), { frames := 1, cells := 0, slots := 0, locals := 23 }, []),
  (yX8_tradedAt, cX8_tradedAt, 2, none, { frames := 0, cells := 0, slots := 0, locals := 0 }, []),
  (yX8_changeBand, cX8_changeBand, 3, (some .int), { frames := 0, cells := 0, slots := 0, locals := 0 }, []),
  (yX8_divideBy, cX8_divideBy, 2, none, { frames := 2, cells := 0, slots := 0, locals := 44 }, []),
  (yX8_partOf, cX8_partOf, 2, (some .int), { frames := 1, cells := 0, slots := 0, locals := 23 }, []),
  (yX8_isSameAs, cX8_isSameAs, 2, (some .boolean), { frames := 0, cells := 0, slots := 0, locals := 0 }, []),
  (yX9_init, cX9_init, 1, none, { frames := 2, cells := 3, slots := 963, locals := 40 }, []),
  (yX10_init, cX10_init, 1, none, { frames := 1, cells := 0, slots := 0, locals := 20 }, []),
  (yX10_tells, cX10_tells, 2, (some .int), { frames := 0, cells := 0, slots := 0, locals := 0 }, []),
  (yX10_isSameAs, cX10_isSameAs, 2, (some .boolean), { frames := 0, cells := 0, slots := 0, locals := 0 }, []),
  (yX11_init, cX11_init, 1, none, { frames := 4, cells := 365, slots := 7955, locals := 82 }, []),
  (yX11_deposit, cX11_deposit, 4, (some .long), { frames := 7, cells := 4, slots := 27, locals := 190 }, []),
  (yX11_fund, cX11_fund, 4, (some .long), { frames := 7, cells := 4, slots := 27, locals := 190 }, []),
  (yX11_order, cX11_order, 9, (some .int), { frames := 7, cells := 5, slots := 33, locals := 190 }, []),
  (yX11_stop, cX11_stop, 8, (some .int), { frames := 7, cells := 4, slots := 27, locals := 190 }, []),
  (yX11_tie, cX11_tie, 6, none, { frames := 7, cells := 4, slots := 27, locals := 190 }, []),
  (yX11_cancel, cX11_cancel, 4, (some .int), { frames := 7, cells := 3, slots := 21, locals := 190 }, []),
  (yX11_spread, cX11_spread, 7, (some .int), { frames := 7, cells := 6, slots := 39, locals := 190 }, []),
  (yX11_standing, cX11_standing, 3, (some .int), { frames := 6, cells := 1, slots := 6, locals := 90 }, []),
  (yX11_best, cX11_best, 4, (some .int), { frames := 7, cells := 2, slots := 12, locals := 110 }, []),
  (yX11_shown, cX11_shown, 4, (some .int), { frames := 7, cells := 2, slots := 12, locals := 110 }, []),
  (yX11_band, cX11_band, 4, (some .int), { frames := 7, cells := 3, slots := 21, locals := 190 }, []),
  (yX11_halt, cX11_halt, 3, none, { frames := 7, cells := 3, slots := 21, locals := 190 }, []),
  (yX11_indicated, cX11_indicated, 5, (some .long), { frames := 6, cells := 1, slots := 6, locals := 105 }, []),
  (yX11_open, cX11_open, 3, (some .int), { frames := 7, cells := 3, slots := 21, locals := 190 }, []),
  (yX11_split, cX11_split, 5, (some .int), { frames := 7, cells := 4, slots := 27, locals := 190 }, []),
  (yX11_dividend, cX11_dividend, 4, (some .long), { frames := 7, cells := 3, slots := 21, locals := 190 }, []),
  (yX11_instrument, cX11_instrument, 3, (some .int), { frames := 6, cells := 1, slots := 6, locals := 90 }, []),
  (yX11_trades, cX11_trades, 1, (some .int), { frames := 0, cells := 0, slots := 0, locals := 0 }, []),
  (yX11_trade, cX11_trade, 4, (some .int), { frames := 7, cells := 2, slots := 12, locals := 110 }, []),
  (yX11_breakTrade, cX11_breakTrade, 4, none, { frames := 7, cells := 3, slots := 21, locals := 190 }, []),
  (yX11_position, cX11_position, 4, (some .long), { frames := 6, cells := 1, slots := 6, locals := 90 }, []),
  (yX11_money, cX11_money, 4, (some .long), { frames := 7, cells := 2, slots := 12, locals := 110 }, []),
  (yX11_scenario, cX11_scenario, 5, (some .int), { frames := 7, cells := 3, slots := 21, locals := 190 }, []),
  (yX11_margin, cX11_margin, 3, (some .long), { frames := 6, cells := 1, slots := 6, locals := 90 }, []),
  (yX11_worth, cX11_worth, 3, (some .long), { frames := 6, cells := 1, slots := 6, locals := 90 }, []),
  (yX11_member, cX11_member, 3, (some .int), { frames := 6, cells := 1, slots := 6, locals := 90 }, []),
  (yX11_tick, cX11_tick, 3, (some .int), { frames := 7, cells := 2, slots := 15, locals := 190 }, []),
  (yX11_sell, cX11_sell, 5, (some .long), { frames := 7, cells := 4, slots := 27, locals := 190 }, []),
  (yX11_settle, cX11_settle, 2, (some .long), { frames := 7, cells := 2, slots := 15, locals := 190 }, []),
  (yX11_read, cX11_read, 3, (some .int), { frames := 6, cells := 1, slots := 6, locals := 90 }, []),
  (yX11_lose, cX11_lose, 3, (some .int), { frames := 7, cells := 2, slots := 12, locals := 110 }, []),
  (yX11_copy, cX11_copy, 3, (some .int), { frames := 6, cells := 1, slots := 6, locals := 90 }, []),
  (yX11_wrong, cX11_wrong, 3, (some .int), { frames := 6, cells := 1, slots := 6, locals := 94 }, []),
  (yX11_replays, cX11_replays, 3, (some .boolean), { frames := 7, cells := 347, slots := 4031, locals := 190 }, []),
  (yX11_done, cX11_done, 5, (some .long), { frames := 4, cells := 0, slots := 0, locals := 93 }, []),
  (yX11_keep, cX11_keep, 2, none, { frames := 0, cells := 0, slots := 0, locals := 0 }, []),
  (yX11_mustExist, cX11_mustExist, 1, none, { frames := 6, cells := 1, slots := 6, locals := 90 }, []),
  (yX11_mustFit, cX11_mustFit, 1, none, { frames := 6, cells := 1, slots := 6, locals := 90 }, []),
  (yX11_mustBePossible, cX11_mustBePossible, 1, none, { frames := 6, cells := 1, slots := 6, locals := 90 }, []),
  (yX11_isBetween, cX11_isBetween, 3, (some .boolean), { frames := 0, cells := 0, slots := 0, locals := 0 }, []),
  (yX11_isMember, cX11_isMember, 1, (some .boolean), { frames := 1, cells := 0, slots := 0, locals := 22 }, []),
  (yX11_isMemberOrHouse, cX11_isMemberOrHouse, 1, (some .boolean), { frames := 2, cells := 0, slots := 0, locals := 42 }, []),
  (yX11_isInstrument, cX11_isInstrument, 1, (some .boolean), { frames := 1, cells := 0, slots := 0, locals := 22 }, []),
  (yX11_isSide, cX11_isSide, 1, (some .boolean), { frames := 0, cells := 0, slots := 0, locals := 0 }, []),
  (yX11_isPrice, cX11_isPrice, 1, (some .boolean), { frames := 1, cells := 0, slots := 0, locals := 22 }, []),
  (yX11_isPercent, cX11_isPercent, 1, (some .boolean), { frames := 1, cells := 0, slots := 0, locals := 22 }, []),
  (yX11_isOrder, cX11_isOrder, 3, (some .boolean), { frames := 2, cells := 0, slots := 0, locals := 42 }, []),
  (yX12_init, cX12_init, 2, none, { frames := 1, cells := 46, slots := 243713, locals := 20 }, []),
  (yX12_thrown, cX12_thrown, 1, (some .int), { frames := 0, cells := 0, slots := 0, locals := 0 }, []),
  (yX12_fails, cX12_fails, 2, (some .boolean), { frames := 0, cells := 0, slots := 0, locals := 0 }, []),
  (yX12_isIn, cX12_isIn, 6, (some .boolean), { frames := 0, cells := 0, slots := 0, locals := 0 }, []),
  (yX12_least, cX12_least, 4, (some .long), { frames := 0, cells := 0, slots := 0, locals := 0 }, []),
  (yX12_isMember, cX12_isMember, 1, (some .boolean), { frames := 1, cells := 0, slots := 0, locals := 25 }, []),
  (yX12_isInstrument, cX12_isInstrument, 1, (some .boolean), { frames := 1, cells := 0, slots := 0, locals := 25 }, []),
  (yX12_isPrice, cX12_isPrice, 1, (some .boolean), { frames := 1, cells := 0, slots := 0, locals := 25 }, []),
  (yX12_hasFailed, cX12_hasFailed, 2, (some .boolean), { frames := 0, cells := 0, slots := 0, locals := 0 }, []),
  (yX12_deposit, cX12_deposit, 3, (some .long), { frames := 2, cells := 0, slots := 0, locals := 45 }, []),
  (yX12_fund, cX12_fund, 5, (some .long), { frames := 2, cells := 0, slots := 0, locals := 45 }, []),
  (yX12_isGood, cX12_isGood, 3, (some .boolean), { frames := 0, cells := 0, slots := 0, locals := 0 }, []),
  (yX12_isAhead, cX12_isAhead, 3, (some .boolean), { frames := 1, cells := 0, slots := 0, locals := 22 }, []),
  (yX12_first, cX12_first, 6, (some .int), { frames := 2, cells := 0, slots := 0, locals := 44 }, []),
  (yX12_goes, cX12_goes, 2, none, { frames := 0, cells := 0, slots := 0, locals := 0 }, []),
  (yX12_tells, cX12_tells, 2, none, { frames := 1, cells := 0, slots := 0, locals := 21 }, []),
  (yX12_shows, cX12_shows, 2, none, { frames := 1, cells := 0, slots := 0, locals := 23 }, []),
  (yX12_stands, cX12_stands, 2, none, { frames := 2, cells := 0, slots := 0, locals := 44 }, []),
  (yX12_uses, cX12_uses, 4, none, { frames := 3, cells := 0, slots := 0, locals := 65 }, []),
  (yX12_rate, cX12_rate, 2, (some .int), { frames := 0, cells := 0, slots := 0, locals := 0 }, []),
  (yX12_trade, cX12_trade, 15, none, { frames := 1, cells := 0, slots := 0, locals := 27 }, []),
  (yX12_carries, cX12_carries, 8, none, { frames := 0, cells := 0, slots := 0, locals := 0 }, []),
  (yX12_isBeyond, cX12_isBeyond, 4, (some .boolean), { frames := 0, cells := 0, slots := 0, locals := 0 }, []),
  (yX12_comes, cX12_comes, 8, none, { frames := 4, cells := 0, slots := 0, locals := 88 }, []),
  (yX12_wakes, cX12_wakes, 2, none, { frames := 5, cells := 0, slots := 0, locals := 115 }, []),
  (yX12_nextStop, cX12_nextStop, 6, (some .int), { frames := 0, cells := 0, slots := 0, locals := 0 }, []),
  (yX12_levelOf, cX12_levelOf, 3, (some .int), { frames := 0, cells := 0, slots := 0, locals := 0 }, []),
  (yX12_feeds, cX12_feeds, 2, none, { frames := 1, cells := 0, slots := 0, locals := 22 }, []),
  (yX12_begins, cX12_begins, 2, none, { frames := 0, cells := 0, slots := 0, locals := 0 }, []),
  (yX12_ends, cX12_ends, 1, none, { frames := 6, cells := 0, slots := 0, locals := 136 }, []),
  (yX12_offered, cX12_offered, 9, (some .long), { frames := 1, cells := 0, slots := 0, locals := 22 }, []),
  (yX12_makes, cX12_makes, 9, (some .int), { frames := 0, cells := 0, slots := 0, locals := 0 }, []),
  (yX12_order, cX12_order, 14, (some .int), { frames := 7, cells := 0, slots := 0, locals := 156 }, []),
  (yX12_stop, cX12_stop, 10, (some .int), { frames := 2, cells := 0, slots := 0, locals := 45 }, []),
  (yX12_isOrder, cX12_isOrder, 2, (some .boolean), { frames := 1, cells := 0, slots := 0, locals := 25 }, []),
  (yX12_tie, cX12_tie, 6, none, { frames := 2, cells := 0, slots := 0, locals := 46 }, []),
  (yX12_hasDealt, cX12_hasDealt, 5, (some .boolean), { frames := 0, cells := 0, slots := 0, locals := 0 }, []),
  (yX12_cancel, cX12_cancel, 4, (some .int), { frames := 2, cells := 0, slots := 0, locals := 46 }, []),
  (yX12_spread, cX12_spread, 17, (some .int), { frames := 7, cells := 0, slots := 0, locals := 156 }, []),
  (yX12_drops, cX12_drops, 2, none, { frames := 1, cells := 0, slots := 0, locals := 21 }, []),
  (yX12_standing, cX12_standing, 2, (some .int), { frames := 2, cells := 0, slots := 0, locals := 46 }, []),
  (yX12_best, cX12_best, 4, (some .int), { frames := 3, cells := 0, slots := 0, locals := 69 }, []),
  (yX12_shown, cX12_shown, 5, (some .int), { frames := 2, cells := 0, slots := 0, locals := 45 }, []),
  (yX12_band, cX12_band, 4, (some .int), { frames := 2, cells := 0, slots := 0, locals := 45 }, []),
  (yX12_halt, cX12_halt, 3, none, { frames := 2, cells := 0, slots := 0, locals := 45 }, []),
  (yX12_sum, cX12_sum, 8, (some .long), { frames := 1, cells := 0, slots := 0, locals := 22 }, []),
  (yX12_distance, cX12_distance, 4, (some .long), { frames := 0, cells := 0, slots := 0, locals := 0 }, []),
  (yX12_found, cX12_found, 23, (some .int), { frames := 2, cells := 0, slots := 0, locals := 49 }, []),
  (yX12_indicated, cX12_indicated, 3, (some .long), { frames := 3, cells := 0, slots := 0, locals := 91 }, []),
  (yX12_canTrade, cX12_canTrade, 3, (some .boolean), { frames := 1, cells := 0, slots := 0, locals := 22 }, []),
  (yX12_open, cX12_open, 12, (some .int), { frames := 7, cells := 0, slots := 0, locals := 156 }, []),
  (yX12_opens, cX12_opens, 4, none, { frames := 2, cells := 0, slots := 0, locals := 44 }, []),
  (yX12_part, cX12_part, 2, (some .int), { frames := 0, cells := 0, slots := 0, locals := 0 }, []),
  (yX12_split, cX12_split, 5, (some .int), { frames := 2, cells := 0, slots := 0, locals := 45 }, []),
  (yX12_dividend, cX12_dividend, 8, (some .long), { frames := 2, cells := 0, slots := 0, locals := 45 }, []),
  (yX12_instrument, cX12_instrument, 2, (some .int), { frames := 2, cells := 0, slots := 0, locals := 45 }, []),
  (yX12_trades, cX12_trades, 1, (some .int), { frames := 0, cells := 0, slots := 0, locals := 0 }, []),
  (yX12_isTrade, cX12_isTrade, 2, (some .boolean), { frames := 1, cells := 0, slots := 0, locals := 25 }, []),
  (yX12_trade_, cX12_trade_, 3, (some .int), { frames := 2, cells := 0, slots := 0, locals := 46 }, []),
  (yX12_breakTrade, cX12_breakTrade, 4, none, { frames := 2, cells := 0, slots := 0, locals := 46 }, []),
  (yX12_isHolder, cX12_isHolder, 1, (some .boolean), { frames := 2, cells := 0, slots := 0, locals := 45 }, []),
  (yX12_position, cX12_position, 4, (some .long), { frames := 3, cells := 0, slots := 0, locals := 65 }, []),
  (yX12_money, cX12_money, 4, (some .long), { frames := 3, cells := 0, slots := 0, locals := 65 }, []),
  (yX12_scenario, cX12_scenario, 5, (some .int), { frames := 1, cells := 0, slots := 0, locals := 25 }, []),
  (yX12_marginOf, cX12_marginOf, 8, (some .long), { frames := 0, cells := 0, slots := 0, locals := 0 }, []),
  (yX12_worthOf, cX12_worthOf, 5, (some .long), { frames := 0, cells := 0, slots := 0, locals := 0 }, []),
  (yX12_margin, cX12_margin, 2, (some .long), { frames := 2, cells := 0, slots := 0, locals := 45 }, []),
  (yX12_worth, cX12_worth, 2, (some .long), { frames := 2, cells := 0, slots := 0, locals := 45 }, []),
  (yX12_member, cX12_member, 2, (some .int), { frames := 2, cells := 0, slots := 0, locals := 45 }, []),
  (yX12_pending, cX12_pending, 3, (some .int), { frames := 0, cells := 0, slots := 0, locals := 0 }, []),
  (yX12_fail, cX12_fail, 6, none, { frames := 4, cells := 0, slots := 0, locals := 103 }, []),
  (yX12_settlesIfClear, cX12_settlesIfClear, 3, none, { frames := 3, cells := 0, slots := 0, locals := 81 }, []),
  (yX12_settles, cX12_settles, 14, (some .long), { frames := 2, cells := 0, slots := 0, locals := 48 }, []),
  (yX12_takes, cX12_takes, 6, (some .long), { frames := 1, cells := 0, slots := 0, locals := 23 }, []),
  (yX12_takesOthers, cX12_takesOthers, 11, (some .long), { frames := 0, cells := 0, slots := 0, locals := 0 }, []),
  (yX12_looks, cX12_looks, 3, none, { frames := 5, cells := 0, slots := 0, locals := 128 }, []),
  (yX12_tick, cX12_tick, 3, (some .int), { frames := 6, cells := 0, slots := 0, locals := 150 }, []),
  (yX12_sell, cX12_sell, 8, (some .long), { frames := 4, cells := 0, slots := 0, locals := 103 }, []),
  (yX12_settle, cX12_settle, 1, (some .long), { frames := 3, cells := 0, slots := 0, locals := 81 }, []),
  (yX12_isReader, cX12_isReader, 1, (some .boolean), { frames := 1, cells := 0, slots := 0, locals := 25 }, []),
  (yX12_read, cX12_read, 3, (some .int), { frames := 2, cells := 0, slots := 0, locals := 45 }, []),
  (yX12_lose, cX12_lose, 3, (some .int), { frames := 2, cells := 0, slots := 0, locals := 45 }, []),
  (yX12_copy, cX12_copy, 4, (some .int), { frames := 2, cells := 0, slots := 0, locals := 45 }, []),
  (yX12_wrong, cX12_wrong, 4, (some .int), { frames := 2, cells := 0, slots := 0, locals := 45 }, []),
  (yX12_replays, cX12_replays, 1, (some .boolean), { frames := 0, cells := 0, slots := 0, locals := 0 }, []),
  (yL_deposit, cL_deposit, 5, (some .int), { frames := 8, cells := 4, slots := 27, locals := 213 }, [(0, 9, 12, 13), (0, 9, 16, 15), (0, 9, 20, 17)]),
  (yL_fund, cL_fund, 5, (some .int), { frames := 8, cells := 4, slots := 27, locals := 213 }, [(0, 9, 12, 13), (0, 9, 16, 15), (0, 9, 20, 17)]),
  (yL_order, cL_order, 10, (some .int), { frames := 8, cells := 5, slots := 33, locals := 218 }, [(0, 20, 23, 13), (0, 20, 27, 15), (0, 20, 31, 17)]),
  (yL_stop, cL_stop, 9, (some .int), { frames := 8, cells := 4, slots := 27, locals := 217 }, [(0, 18, 21, 13), (0, 18, 25, 15), (0, 18, 29, 17)]),
  (yL_tie, cL_tie, 4, (some .int), { frames := 8, cells := 4, slots := 27, locals := 215 }, [(0, 6, 9, 13), (0, 6, 12, 15), (0, 6, 15, 17)]),
  (yL_cancel, cL_cancel, 4, (some .int), { frames := 8, cells := 3, slots := 21, locals := 213 }, [(0, 9, 12, 13), (0, 9, 15, 17)]),
  (yL_spread, cL_spread, 8, (some .int), { frames := 8, cells := 6, slots := 39, locals := 216 }, [(0, 16, 19, 13), (0, 16, 23, 15), (0, 16, 27, 17)]),
  (yL_standing, cL_standing, 4, (some .int), { frames := 7, cells := 1, slots := 6, locals := 112 }, [(0, 9, 12, 13)]),
  (yL_best, cL_best, 5, (some .int), { frames := 8, cells := 2, slots := 12, locals := 133 }, [(0, 10, 13, 13), (0, 10, 17, 15)]),
  (yL_shown, cL_shown, 6, (some .int), { frames := 8, cells := 2, slots := 12, locals := 133 }, [(0, 12, 15, 13), (0, 12, 19, 15)]),
  (yL_band, cL_band, 5, (some .int), { frames := 8, cells := 3, slots := 21, locals := 213 }, [(0, 10, 13, 13), (0, 10, 17, 15)]),
  (yL_halt, cL_halt, 3, (some .int), { frames := 8, cells := 3, slots := 21, locals := 212 }, [(0, 5, 8, 13), (0, 5, 11, 17)]),
  (yL_indicated, cL_indicated, 4, (some .int), { frames := 7, cells := 1, slots := 6, locals := 129 }, [(0, 8, 11, 13)]),
  (yL_open, cL_open, 4, (some .int), { frames := 8, cells := 3, slots := 21, locals := 212 }, [(0, 9, 12, 13), (0, 9, 15, 17)]),
  (yL_split, cL_split, 5, (some .int), { frames := 8, cells := 4, slots := 27, locals := 214 }, [(0, 10, 13, 13), (0, 10, 17, 15), (0, 10, 21, 17)]),
  (yL_dividend, cL_dividend, 5, (some .int), { frames := 8, cells := 3, slots := 21, locals := 213 }, [(0, 9, 12, 13), (0, 9, 16, 15)]),
  (yL_instrument, cL_instrument, 4, (some .int), { frames := 7, cells := 1, slots := 6, locals := 112 }, [(0, 9, 12, 13)]),
  (yL_trade, cL_trade, 5, (some .int), { frames := 8, cells := 2, slots := 12, locals := 133 }, [(0, 10, 13, 13), (0, 10, 17, 15)]),
  (yL_breakTrade, cL_breakTrade, 3, (some .int), { frames := 8, cells := 3, slots := 21, locals := 213 }, [(0, 5, 8, 13), (0, 5, 11, 17)]),
  (yL_position, cL_position, 5, (some .int), { frames := 7, cells := 1, slots := 6, locals := 113 }, [(0, 9, 12, 13)]),
  (yL_money, cL_money, 5, (some .int), { frames := 8, cells := 2, slots := 12, locals := 133 }, [(0, 9, 12, 13), (0, 9, 16, 15)]),
  (yL_scenario, cL_scenario, 6, (some .int), { frames := 8, cells := 3, slots := 21, locals := 214 }, [(0, 12, 15, 15), (0, 12, 19, 17)]),
  (yL_margin, cL_margin, 4, (some .int), { frames := 7, cells := 1, slots := 6, locals := 112 }, [(0, 8, 11, 13)]),
  (yL_worth, cL_worth, 4, (some .int), { frames := 7, cells := 1, slots := 6, locals := 112 }, [(0, 8, 11, 13)]),
  (yL_member, cL_member, 4, (some .int), { frames := 7, cells := 1, slots := 6, locals := 112 }, [(0, 9, 12, 13)]),
  (yL_tick, cL_tick, 4, (some .int), { frames := 8, cells := 2, slots := 15, locals := 212 }, [(0, 9, 12, 15)]),
  (yL_sell, cL_sell, 6, (some .int), { frames := 8, cells := 4, slots := 27, locals := 214 }, [(0, 11, 14, 13), (0, 11, 18, 15), (0, 11, 22, 17)]),
  (yL_settle, cL_settle, 3, (some .int), { frames := 8, cells := 2, slots := 15, locals := 211 }, [(0, 7, 10, 17)]),
  (yL_read, cL_read, 4, (some .int), { frames := 7, cells := 1, slots := 6, locals := 112 }, [(0, 9, 12, 13)]),
  (yL_lose, cL_lose, 4, (some .int), { frames := 8, cells := 2, slots := 12, locals := 132 }, [(0, 9, 12, 13), (0, 9, 15, 17)]),
  (yL_copy, cL_copy, 4, (some .int), { frames := 7, cells := 1, slots := 6, locals := 112 }, [(0, 9, 12, 13)]),
  (yL_wrong, cL_wrong, 4, (some .int), { frames := 7, cells := 1, slots := 6, locals := 116 }, [(0, 9, 12, 13)]),
  (m_yfm, prog_19_method_50_code, 3, some .int, { frames := 0, cells := 0, slots := 0, locals := 0 }, [])]
end
section
/-! rows of the methods, and that they are as the code and the tables have them -/
def rw_X0_init : List (Nat × mRow) := [(0, (.aload_n 0, 0, 0, 0, 0, [])), (1, (.invokespecial 3, 0, 2000, 0, 0, [105, 92, 0, 0, 93])), (4, (.aload_n 0, 0, 0, 0, 0, [])), (5, (.bipush 120, 0, 0, 0, 0, [])), (7, (.anewarray 9, 0, 17, 0, 0, [106, 107])), (10, (.putfield 11, 0, 0, 0, 0, [185])), (13, (.iconst 0, 0, 0, 0, 0, [])), (14, (.istore_n 1, 0, 0, 0, 0, [])), (15, (.iload_n 1, 0, 0, 0, 0, [])), (16, (.aload_n 0, 0, 0, 0, 0, [])), (17, (.getfield 11, 0, 0, 0, 0, [185])), (20, (.arraylength, 0, 0, 0, 0, [])), (21, (.if_icmp .ge (23), 0, 44, 0, 0, [])), (24, (.aload_n 0, 0, 0, 0, 0, [])), (25, (.getfield 11, 0, 0, 0, 0, [185])), (28, (.iload_n 1, 0, 0, 0, 0, [])), (29, (.new 9, 0, 7, 0, 0, [106, 108, 69])), (32, (.dup, 0, 0, 0, 0, [])), (33, (.iload_n 1, 0, 0, 0, 0, [])), (34, (.invokespecial 17, 0, 97, 1, 0, [109, 110, 0, 69, 111, 7])), (37, (.aastore, 0, 0, 0, 0, [])), (38, (.iinc 1 1, 0, 0, 0, 0, [])), (41, (.goto (-26), 0, 15, 0, 0, [])), (44, (.return_, 0, 0, 0, 0, []))]
abbrev rm_X0_init : Room := { frames := 2, cells := 121, slots := 1680, locals := 41 }
theorem ok_X0_init : ∀ q ∈ rw_X0_init, m_rowB m_mt RX0 true cX0_init rm_X0_init q = true := List.all_eq_true.mp (by decide +kernel)
def rw_X0_clear : List (Nat × mRow) := [(0, (.aload_n 0, 0, 0, 0, 0, [])), (1, (.iconst 0, 0, 0, 0, 0, [])), (2, (.putfield 20, 0, 0, 1, 0, [187])), (5, (.aload_n 0, 0, 0, 0, 0, [])), (6, (.iconst 0, 0, 0, 0, 0, [])), (7, (.putfield 24, 0, 0, 2, 0, [189])), (10, (.return_, 0, 0, 0, 0, []))]
abbrev rm_X0_clear : Room := { frames := 0, cells := 0, slots := 0, locals := 0 }
theorem ok_X0_clear : ∀ q ∈ rw_X0_clear, m_rowB m_mt RX0 false cX0_clear rm_X0_clear q = true := List.all_eq_true.mp (by decide +kernel)
def rw_X0_hasRoom : List (Nat × mRow) := [(0, (.aload_n 0, 0, 0, 0, 0, [])), (1, (.getfield 20, 0, 0, 1, 0, [187])), (4, (.aload_n 0, 0, 0, 0, 0, [])), (5, (.getfield 11, 0, 0, 0, 0, [185])), (8, (.arraylength, 0, 0, 0, 0, [])), (9, (.if_icmp .ge (7), 0, 16, 0, 0, [])), (12, (.iconst 1, 0, 0, 0, 0, [])), (13, (.goto (4), 0, 17, 0, 0, [])), (16, (.iconst 0, 0, 0, 0, 0, [])), (17, (.ireturn, 0, 0, 0, 0, []))]
abbrev rm_X0_hasRoom : Room := { frames := 0, cells := 0, slots := 0, locals := 0 }
theorem ok_X0_hasRoom : ∀ q ∈ rw_X0_hasRoom, m_rowB m_mt RX0 false cX0_hasRoom rm_X0_hasRoom q = true := List.all_eq_true.mp (by decide +kernel)
def rw_X0_orderAt : List (Nat × mRow) := [(0, (.iload_n 1, 0, 0, 0, 0, [])), (1, (.ifCond .lt (20), 0, 21, 0, 0, [])), (4, (.iload_n 1, 0, 0, 0, 0, [])), (5, (.aload_n 0, 0, 0, 0, 0, [])), (6, (.getfield 20, 0, 0, 1, 0, [187])), (9, (.if_icmp .ge (12), 0, 21, 0, 0, [])), (12, (.iload_n 1, 0, 0, 0, 0, [])), (13, (.aload_n 0, 0, 0, 0, 0, [])), (14, (.getfield 11, 0, 0, 0, 0, [185])), (17, (.arraylength, 0, 0, 0, 0, [])), (18, (.if_icmp .lt (7), 0, 25, 0, 0, [])), (21, (.aconst_null, 0, 0, 0, 0, [])), (22, (.goto (9), 0, 31, 0, 0, [])), (25, (.aload_n 0, 0, 0, 0, 0, [])), (26, (.getfield 11, 0, 0, 0, 0, [185])), (29, (.iload_n 1, 0, 0, 0, 0, [])), (30, (.aaload, 0, 0, 0, 0, [])), (31, (.areturn, 0, 0, 0, 0, []))]
abbrev rm_X0_orderAt : Room := { frames := 0, cells := 0, slots := 0, locals := 0 }
theorem ok_X0_orderAt : ∀ q ∈ rw_X0_orderAt, m_rowB m_mt RX0 false cX0_orderAt rm_X0_orderAt q = true := List.all_eq_true.mp (by decide +kernel)
def rw_X0_add : List (Nat × mRow) := [(0, (.aload_n 0, 0, 0, 0, 0, [])), (1, (.getfield 20, 0, 0, 1, 0, [187])), (4, (.ifCond .lt (15), 0, 19, 0, 0, [])), (7, (.aload_n 0, 0, 0, 0, 0, [])), (8, (.getfield 20, 0, 0, 1, 0, [187])), (11, (.aload_n 0, 0, 0, 0, 0, [])), (12, (.getfield 11, 0, 0, 0, 0, [185])), (15, (.arraylength, 0, 0, 0, 0, [])), (16, (.if_icmp .lt (5), 0, 21, 0, 0, [])), (19, (.aconst_null, 0, 0, 0, 0, [])), (20, (.areturn, 0, 0, 0, 0, [])), (21, (.aload_n 0, 0, 0, 0, 0, [])), (22, (.getfield 11, 0, 0, 0, 0, [185])), (25, (.aload_n 0, 0, 0, 0, 0, [])), (26, (.getfield 20, 0, 0, 1, 0, [187])), (29, (.aaload, 0, 0, 0, 0, [])), (30, (.astore 6, 0, 0, 0, 0, [])), (32, (.aload_n 0, 0, 0, 0, 0, [])), (33, (.dup, 0, 0, 0, 0, [])), (34, (.getfield 20, 0, 0, 1, 0, [187])), (37, (.iconst 1, 0, 0, 0, 0, [])), (38, (.iadd, 0, 0, 0, 0, [])), (39, (.putfield 20, 0, 0, 1, 0, [187])), (42, (.aload 6, 0, 0, 0, 0, [])), (44, (.iload_n 1, 0, 0, 0, 0, [])), (45, (.putfield 27, 0, 7, 1, 0, [115])), (48, (.aload 6, 0, 0, 0, 0, [])), (50, (.iload_n 2, 0, 0, 0, 0, [])), (51, (.putfield 30, 0, 7, 2, 0, [121])), (54, (.aload 6, 0, 0, 0, 0, [])), (56, (.iload_n 3, 0, 0, 0, 0, [])), (57, (.putfield 33, 0, 7, 3, 0, [125])), (60, (.aload 6, 0, 0, 0, 0, [])), (62, (.iload 4, 0, 0, 0, 0, [])), (64, (.putfield 36, 0, 7, 4, 0, [128])), (67, (.aload 6, 0, 0, 0, 0, [])), (69, (.iconst 0, 0, 0, 0, 0, [])), (70, (.putfield 39, 0, 7, 5, 0, [132])), (73, (.aload 6, 0, 0, 0, 0, [])), (75, (.iload 5, 0, 0, 0, 0, [])), (77, (.putfield 42, 0, 7, 6, 0, [135])), (80, (.aload 6, 0, 0, 0, 0, [])), (82, (.iconst 0, 0, 0, 0, 0, [])), (83, (.putfield 45, 0, 7, 7, 0, [139])), (86, (.aload 6, 0, 0, 0, 0, [])), (88, (.iconst 0, 0, 0, 0, 0, [])), (89, (.putfield 48, 0, 7, 8, 0, [143])), (92, (.aload 6, 0, 0, 0, 0, [])), (94, (.iconst 3, 0, 0, 0, 0, [])), (95, (.putfield 51, 0, 7, 9, 0, [147])), (98, (.aload 6, 0, 0, 0, 0, [])), (100, (.iconst 0, 0, 0, 0, 0, [])), (101, (.putfield 54, 0, 7, 10, 0, [150])), (104, (.aload 6, 0, 0, 0, 0, [])), (106, (.iconst 0, 0, 0, 0, 0, [])), (107, (.putfield 57, 0, 7, 11, 0, [153])), (110, (.aload 6, 0, 0, 0, 0, [])), (112, (.aconst_null, 0, 0, 0, 0, [])), (113, (.putfield 60, 0, 7, 12, 0, [156])), (116, (.aload 6, 0, 0, 0, 0, [])), (118, (.areturn, 0, 0, 0, 0, []))]
abbrev rm_X0_add : Room := { frames := 0, cells := 0, slots := 0, locals := 0 }
theorem ok_X0_add : ∀ q ∈ rw_X0_add, m_rowB m_mt RX0 false cX0_add rm_X0_add q = true := List.all_eq_true.mp (by decide +kernel)
def rw_X0_letStand : List (Nat × mRow) := [(0, (.aload_n 1, 0, 0, 0, 0, [])), (1, (.iconst 1, 0, 0, 0, 0, [])), (2, (.putfield 51, 0, 7, 9, 0, [147])), (5, (.aload_n 1, 0, 0, 0, 0, [])), (6, (.invokevirtual 64, 0, 105, 0, 0, [621, 622, 623, 69, 624, 7])), (9, (.aload_n 1, 0, 0, 0, 0, [])), (10, (.aload_n 0, 0, 0, 0, 0, [])), (11, (.getfield 24, 0, 0, 2, 0, [189])), (14, (.putfield 57, 0, 7, 11, 0, [153])), (17, (.aload_n 0, 0, 0, 0, 0, [])), (18, (.dup, 0, 0, 0, 0, [])), (19, (.getfield 24, 0, 0, 2, 0, [189])), (22, (.iconst 1, 0, 0, 0, 0, [])), (23, (.iadd, 0, 0, 0, 0, [])), (24, (.putfield 24, 0, 0, 2, 0, [189])), (27, (.return_, 0, 0, 0, 0, []))]
abbrev rm_X0_letStand : Room := { frames := 1, cells := 0, slots := 0, locals := 20 }
theorem ok_X0_letStand : ∀ q ∈ rw_X0_letStand, m_rowB m_mt RX0 false cX0_letStand rm_X0_letStand q = true := List.all_eq_true.mp (by decide +kernel)
def rw_X0_firstOf : List (Nat × mRow) := [(0, (.aconst_null, 0, 0, 0, 0, [])), (1, (.astore_n 3, 0, 0, 0, 0, [])), (2, (.iconst 0, 0, 0, 0, 0, [])), (3, (.istore 4, 0, 0, 0, 0, [])), (5, (.iload 4, 0, 0, 0, 0, [])), (7, (.aload_n 0, 0, 0, 0, 0, [])), (8, (.getfield 20, 0, 0, 1, 0, [187])), (11, (.if_icmp .ge (54), 0, 65, 0, 0, [])), (14, (.iload 4, 0, 0, 0, 0, [])), (16, (.aload_n 0, 0, 0, 0, 0, [])), (17, (.getfield 11, 0, 0, 0, 0, [185])), (20, (.arraylength, 0, 0, 0, 0, [])), (21, (.if_icmp .ge (44), 0, 65, 0, 0, [])), (24, (.aload_n 0, 0, 0, 0, 0, [])), (25, (.getfield 11, 0, 0, 0, 0, [185])), (28, (.iload 4, 0, 0, 0, 0, [])), (30, (.aaload, 0, 0, 0, 0, [])), (31, (.astore 5, 0, 0, 0, 0, [])), (33, (.aload 5, 0, 0, 0, 0, [])), (35, (.iload_n 1, 0, 0, 0, 0, [])), (36, (.iload_n 2, 0, 0, 0, 0, [])), (37, (.invokevirtual 67, 0, 100, 2, 0, [537, 538, 539, 69, 540, 7])), (40, (.ifCond .eq (19), 0, 59, 0, 0, [])), (43, (.aload_n 3, 0, 0, 0, 0, [])), (44, (.ifnull (12), 0, 56, 0, 0, [])), (47, (.aload 5, 0, 0, 0, 0, [])), (49, (.aload_n 3, 0, 0, 0, 0, [])), (50, (.invokevirtual 71, 0, 102, 1, 0, [562, 563, 564, 69, 565, 7])), (53, (.ifCond .eq (6), 0, 59, 0, 0, [])), (56, (.aload 5, 0, 0, 0, 0, [])), (58, (.astore_n 3, 0, 0, 0, 0, [])), (59, (.iinc 4 1, 0, 0, 0, 0, [])), (62, (.goto (-57), 0, 5, 0, 0, [])), (65, (.aload_n 3, 0, 0, 0, 0, [])), (66, (.areturn, 0, 0, 0, 0, []))]
abbrev rm_X0_firstOf : Room := { frames := 1, cells := 0, slots := 0, locals := 22 }
theorem ok_X0_firstOf : ∀ q ∈ rw_X0_firstOf, m_rowB m_mt RX0 false cX0_firstOf rm_X0_firstOf q = true := List.all_eq_true.mp (by decide +kernel)
def rw_X0_shownAt : List (Nat × mRow) := [(0, (.iconst 0, 0, 0, 0, 0, [])), (1, (.istore 4, 0, 0, 0, 0, [])), (3, (.iconst 0, 0, 0, 0, 0, [])), (4, (.istore 5, 0, 0, 0, 0, [])), (6, (.iload 5, 0, 0, 0, 0, [])), (8, (.aload_n 0, 0, 0, 0, 0, [])), (9, (.getfield 20, 0, 0, 1, 0, [187])), (12, (.if_icmp .ge (57), 0, 69, 0, 0, [])), (15, (.iload 5, 0, 0, 0, 0, [])), (17, (.aload_n 0, 0, 0, 0, 0, [])), (18, (.getfield 11, 0, 0, 0, 0, [185])), (21, (.arraylength, 0, 0, 0, 0, [])), (22, (.if_icmp .ge (47), 0, 69, 0, 0, [])), (25, (.aload_n 0, 0, 0, 0, 0, [])), (26, (.getfield 11, 0, 0, 0, 0, [185])), (29, (.iload 5, 0, 0, 0, 0, [])), (31, (.aaload, 0, 0, 0, 0, [])), (32, (.astore 6, 0, 0, 0, 0, [])), (34, (.aload 6, 0, 0, 0, 0, [])), (36, (.iload_n 1, 0, 0, 0, 0, [])), (37, (.iload_n 2, 0, 0, 0, 0, [])), (38, (.invokevirtual 67, 0, 100, 2, 0, [537, 538, 539, 69, 540, 7])), (41, (.ifCond .eq (22), 0, 63, 0, 0, [])), (44, (.aload 6, 0, 0, 0, 0, [])), (46, (.getfield 36, 0, 7, 4, 0, [128])), (49, (.iload_n 3, 0, 0, 0, 0, [])), (50, (.if_icmp .ne (13), 0, 63, 0, 0, [])), (53, (.iload 4, 0, 0, 0, 0, [])), (55, (.aload 6, 0, 0, 0, 0, [])), (57, (.getfield 45, 0, 7, 7, 0, [139])), (60, (.iadd, 0, 0, 0, 0, [])), (61, (.istore 4, 0, 0, 0, 0, [])), (63, (.iinc 5 1, 0, 0, 0, 0, [])), (66, (.goto (-60), 0, 6, 0, 0, [])), (69, (.iload 4, 0, 0, 0, 0, [])), (71, (.ireturn, 0, 0, 0, 0, []))]
abbrev rm_X0_shownAt : Room := { frames := 1, cells := 0, slots := 0, locals := 22 }
theorem ok_X0_shownAt : ∀ q ∈ rw_X0_shownAt, m_rowB m_mt RX0 false cX0_shownAt rm_X0_shownAt q = true := List.all_eq_true.mp (by decide +kernel)
def rw_X0_sumGoodFor : List (Nat × mRow) := [(0, (.iconst 0, 0, 0, 0, 0, [])), (1, (.istore 5, 0, 0, 0, 0, [])), (3, (.iconst 0, 0, 0, 0, 0, [])), (4, (.istore 6, 0, 0, 0, 0, [])), (6, (.iload 6, 0, 0, 0, 0, [])), (8, (.aload_n 0, 0, 0, 0, 0, [])), (9, (.getfield 20, 0, 0, 1, 0, [187])), (12, (.if_icmp .ge (67), 0, 79, 0, 0, [])), (15, (.iload 6, 0, 0, 0, 0, [])), (17, (.aload_n 0, 0, 0, 0, 0, [])), (18, (.getfield 11, 0, 0, 0, 0, [185])), (21, (.arraylength, 0, 0, 0, 0, [])), (22, (.if_icmp .ge (57), 0, 79, 0, 0, [])), (25, (.aload_n 0, 0, 0, 0, 0, [])), (26, (.getfield 11, 0, 0, 0, 0, [185])), (29, (.iload 6, 0, 0, 0, 0, [])), (31, (.aaload, 0, 0, 0, 0, [])), (32, (.astore 7, 0, 0, 0, 0, [])), (34, (.aload 7, 0, 0, 0, 0, [])), (36, (.iload_n 1, 0, 0, 0, 0, [])), (37, (.iload_n 2, 0, 0, 0, 0, [])), (38, (.invokevirtual 67, 0, 100, 2, 0, [537, 538, 539, 69, 540, 7])), (41, (.ifCond .eq (32), 0, 73, 0, 0, [])), (44, (.aload 7, 0, 0, 0, 0, [])), (46, (.iload_n 3, 0, 0, 0, 0, [])), (47, (.invokevirtual 75, 0, 103, 1, 0, [541, 542, 543, 69, 544, 7])), (50, (.ifCond .eq (23), 0, 73, 0, 0, [])), (53, (.aload 7, 0, 0, 0, 0, [])), (55, (.getfield 27, 0, 7, 1, 0, [115])), (58, (.iload 4, 0, 0, 0, 0, [])), (60, (.if_icmp .eq (13), 0, 73, 0, 0, [])), (63, (.iload 5, 0, 0, 0, 0, [])), (65, (.aload 7, 0, 0, 0, 0, [])), (67, (.getfield 42, 0, 7, 6, 0, [135])), (70, (.iadd, 0, 0, 0, 0, [])), (71, (.istore 5, 0, 0, 0, 0, [])), (73, (.iinc 6 1, 0, 0, 0, 0, [])), (76, (.goto (-70), 0, 6, 0, 0, [])), (79, (.iload 5, 0, 0, 0, 0, [])), (81, (.ireturn, 0, 0, 0, 0, []))]
abbrev rm_X0_sumGoodFor : Room := { frames := 1, cells := 0, slots := 0, locals := 22 }
theorem ok_X0_sumGoodFor : ∀ q ∈ rw_X0_sumGoodFor, m_rowB m_mt RX0 false cX0_sumGoodFor rm_X0_sumGoodFor q = true := List.all_eq_true.mp (by decide +kernel)
def rw_X0_mostAt : List (Nat × mRow) := [(0, (.aload_n 0, 0, 0, 0, 0, [])), (1, (.iload_n 1, 0, 0, 0, 0, [])), (2, (.iconst 0, 0, 0, 0, 0, [])), (3, (.iload_n 2, 0, 0, 0, 0, [])), (4, (.iconst (-1), 0, 0, 0, 0, [])), (5, (.invokevirtual 79, 0, 8, 4, 0, [679, 534, 535, 68, 536, 0])), (8, (.aload_n 0, 0, 0, 0, 0, [])), (9, (.iload_n 1, 0, 0, 0, 0, [])), (10, (.iconst 1, 0, 0, 0, 0, [])), (11, (.iload_n 2, 0, 0, 0, 0, [])), (12, (.iconst (-1), 0, 0, 0, 0, [])), (13, (.invokevirtual 79, 0, 8, 4, 0, [679, 534, 535, 68, 536, 0])), (16, (.invokestatic 83, 0, 1001, 2, 0, [680, 579, 0, 85, 580])), (19, (.ireturn, 0, 0, 0, 0, []))]
abbrev rm_X0_mostAt : Room := { frames := 2, cells := 0, slots := 0, locals := 49 }
theorem ok_X0_mostAt : ∀ q ∈ rw_X0_mostAt, m_rowB m_mt RX0 false cX0_mostAt rm_X0_mostAt q = true := List.all_eq_true.mp (by decide +kernel)
def rw_X0_openingPrice : List (Nat × mRow) := [(0, (.iconst 0, 0, 0, 0, 0, [])), (1, (.istore_n 3, 0, 0, 0, 0, [])), (2, (.iconst 0, 0, 0, 0, 0, [])), (3, (.istore 4, 0, 0, 0, 0, [])), (5, (.iload 4, 0, 0, 0, 0, [])), (7, (.aload_n 0, 0, 0, 0, 0, [])), (8, (.getfield 20, 0, 0, 1, 0, [187])), (11, (.if_icmp .ge (70), 0, 81, 0, 0, [])), (14, (.iload 4, 0, 0, 0, 0, [])), (16, (.aload_n 0, 0, 0, 0, 0, [])), (17, (.getfield 11, 0, 0, 0, 0, [185])), (20, (.arraylength, 0, 0, 0, 0, [])), (21, (.if_icmp .ge (60), 0, 81, 0, 0, [])), (24, (.aload_n 0, 0, 0, 0, 0, [])), (25, (.getfield 11, 0, 0, 0, 0, [185])), (28, (.iload 4, 0, 0, 0, 0, [])), (30, (.aaload, 0, 0, 0, 0, [])), (31, (.astore 5, 0, 0, 0, 0, [])), (33, (.aload 5, 0, 0, 0, 0, [])), (35, (.invokevirtual 89, 0, 99, 0, 0, [671, 672, 673, 69, 674, 7])), (38, (.ifCond .eq (37), 0, 75, 0, 0, [])), (41, (.aload 5, 0, 0, 0, 0, [])), (43, (.getfield 30, 0, 7, 2, 0, [121])), (46, (.iload_n 1, 0, 0, 0, 0, [])), (47, (.if_icmp .ne (28), 0, 75, 0, 0, [])), (50, (.iload_n 3, 0, 0, 0, 0, [])), (51, (.ifCond .eq (18), 0, 69, 0, 0, [])), (54, (.aload_n 0, 0, 0, 0, 0, [])), (55, (.iload_n 1, 0, 0, 0, 0, [])), (56, (.aload 5, 0, 0, 0, 0, [])), (58, (.getfield 36, 0, 7, 4, 0, [128])), (61, (.iload_n 3, 0, 0, 0, 0, [])), (62, (.iload_n 2, 0, 0, 0, 0, [])), (63, (.invokevirtual 93, 0, 11, 4, 0, [675, 677, 10, 68, 678, 0])), (66, (.ifCond .eq (9), 0, 75, 0, 0, [])), (69, (.aload 5, 0, 0, 0, 0, [])), (71, (.getfield 36, 0, 7, 4, 0, [128])), (74, (.istore_n 3, 0, 0, 0, 0, [])), (75, (.iinc 4 1, 0, 0, 0, 0, [])), (78, (.goto (-73), 0, 5, 0, 0, [])), (81, (.iload_n 3, 0, 0, 0, 0, [])), (82, (.ireturn, 0, 0, 0, 0, []))]
abbrev rm_X0_openingPrice : Room := { frames := 3, cells := 0, slots := 0, locals := 80 }
theorem ok_X0_openingPrice : ∀ q ∈ rw_X0_openingPrice, m_rowB m_mt RX0 false cX0_openingPrice rm_X0_openingPrice q = true := List.all_eq_true.mp (by decide +kernel)
def rw_X0_opensBetter : List (Nat × mRow) := [(0, (.aload_n 0, 0, 0, 0, 0, [])), (1, (.iload_n 1, 0, 0, 0, 0, [])), (2, (.iconst 0, 0, 0, 0, 0, [])), (3, (.iload_n 2, 0, 0, 0, 0, [])), (4, (.iconst (-1), 0, 0, 0, 0, [])), (5, (.invokevirtual 79, 0, 8, 4, 0, [679, 534, 535, 68, 536, 0])), (8, (.istore 5, 0, 0, 0, 0, [])), (10, (.aload_n 0, 0, 0, 0, 0, [])), (11, (.iload_n 1, 0, 0, 0, 0, [])), (12, (.iconst 1, 0, 0, 0, 0, [])), (13, (.iload_n 2, 0, 0, 0, 0, [])), (14, (.iconst (-1), 0, 0, 0, 0, [])), (15, (.invokevirtual 79, 0, 8, 4, 0, [679, 534, 535, 68, 536, 0])), (18, (.istore 6, 0, 0, 0, 0, [])), (20, (.aload_n 0, 0, 0, 0, 0, [])), (21, (.iload_n 1, 0, 0, 0, 0, [])), (22, (.iconst 0, 0, 0, 0, 0, [])), (23, (.iload_n 3, 0, 0, 0, 0, [])), (24, (.iconst (-1), 0, 0, 0, 0, [])), (25, (.invokevirtual 79, 0, 8, 4, 0, [679, 534, 535, 68, 536, 0])), (28, (.istore 7, 0, 0, 0, 0, [])), (30, (.aload_n 0, 0, 0, 0, 0, [])), (31, (.iload_n 1, 0, 0, 0, 0, [])), (32, (.iconst 1, 0, 0, 0, 0, [])), (33, (.iload_n 3, 0, 0, 0, 0, [])), (34, (.iconst (-1), 0, 0, 0, 0, [])), (35, (.invokevirtual 79, 0, 8, 4, 0, [679, 534, 535, 68, 536, 0])), (38, (.istore 8, 0, 0, 0, 0, [])), (40, (.iload 5, 0, 0, 0, 0, [])), (42, (.iload 6, 0, 0, 0, 0, [])), (44, (.invokestatic 83, 0, 1001, 2, 0, [680, 579, 0, 85, 580])), (47, (.iload 7, 0, 0, 0, 0, [])), (49, (.iload 8, 0, 0, 0, 0, [])), (51, (.invokestatic 83, 0, 1001, 2, 0, [680, 579, 0, 85, 580])), (54, (.isub, 0, 0, 0, 0, [])), (55, (.istore 9, 0, 0, 0, 0, [])), (57, (.iload 9, 0, 0, 0, 0, [])), (59, (.ifCond .eq (14), 0, 73, 0, 0, [])), (62, (.iload 9, 0, 0, 0, 0, [])), (64, (.ifCond .le (7), 0, 71, 0, 0, [])), (67, (.iconst 1, 0, 0, 0, 0, [])), (68, (.goto (4), 0, 72, 0, 0, [])), (71, (.iconst 0, 0, 0, 0, 0, [])), (72, (.ireturn, 0, 0, 0, 0, [])), (73, (.iload 5, 0, 0, 0, 0, [])), (75, (.iload 6, 0, 0, 0, 0, [])), (77, (.isub, 0, 0, 0, 0, [])), (78, (.invokestatic 97, 0, 1002, 1, 0, [681, 576, 0, 85, 577])), (81, (.iload 7, 0, 0, 0, 0, [])), (83, (.iload 8, 0, 0, 0, 0, [])), (85, (.isub, 0, 0, 0, 0, [])), (86, (.invokestatic 97, 0, 1002, 1, 0, [681, 576, 0, 85, 577])), (89, (.isub, 0, 0, 0, 0, [])), (90, (.istore 10, 0, 0, 0, 0, [])), (92, (.iload 10, 0, 0, 0, 0, [])), (94, (.ifCond .eq (14), 0, 108, 0, 0, [])), (97, (.iload 10, 0, 0, 0, 0, [])), (99, (.ifCond .ge (7), 0, 106, 0, 0, [])), (102, (.iconst 1, 0, 0, 0, 0, [])), (103, (.goto (4), 0, 107, 0, 0, [])), (106, (.iconst 0, 0, 0, 0, 0, [])), (107, (.ireturn, 0, 0, 0, 0, [])), (108, (.iload_n 2, 0, 0, 0, 0, [])), (109, (.iload 4, 0, 0, 0, 0, [])), (111, (.isub, 0, 0, 0, 0, [])), (112, (.invokestatic 97, 0, 1002, 1, 0, [681, 576, 0, 85, 577])), (115, (.iload_n 3, 0, 0, 0, 0, [])), (116, (.iload 4, 0, 0, 0, 0, [])), (118, (.isub, 0, 0, 0, 0, [])), (119, (.invokestatic 97, 0, 1002, 1, 0, [681, 576, 0, 85, 577])), (122, (.isub, 0, 0, 0, 0, [])), (123, (.istore 11, 0, 0, 0, 0, [])), (125, (.iload 11, 0, 0, 0, 0, [])), (127, (.ifCond .ne (16), 0, 143, 0, 0, [])), (130, (.iload_n 2, 0, 0, 0, 0, [])), (131, (.iload_n 3, 0, 0, 0, 0, [])), (132, (.if_icmp .ge (7), 0, 139, 0, 0, [])), (135, (.iconst 1, 0, 0, 0, 0, [])), (136, (.goto (17), 0, 153, 0, 0, [])), (139, (.iconst 0, 0, 0, 0, 0, [])), (140, (.goto (13), 0, 153, 0, 0, [])), (143, (.iload 11, 0, 0, 0, 0, [])), (145, (.ifCond .ge (7), 0, 152, 0, 0, [])), (148, (.iconst 1, 0, 0, 0, 0, [])), (149, (.goto (4), 0, 153, 0, 0, [])), (152, (.iconst 0, 0, 0, 0, 0, [])), (153, (.ireturn, 0, 0, 0, 0, []))]
abbrev rm_X0_opensBetter : Room := { frames := 2, cells := 0, slots := 0, locals := 49 }
theorem ok_X0_opensBetter : ∀ q ∈ rw_X0_opensBetter, m_rowB m_mt RX0 false cX0_opensBetter rm_X0_opensBetter q = true := List.all_eq_true.mp (by decide +kernel)
def rw_X0_useShown : List (Nat × mRow) := [(0, (.aload_n 1, 0, 0, 0, 0, [])), (1, (.dup, 0, 0, 0, 0, [])), (2, (.getfield 42, 0, 7, 6, 0, [135])), (5, (.iload_n 2, 0, 0, 0, 0, [])), (6, (.isub, 0, 0, 0, 0, [])), (7, (.putfield 42, 0, 7, 6, 0, [135])), (10, (.aload_n 1, 0, 0, 0, 0, [])), (11, (.dup, 0, 0, 0, 0, [])), (12, (.getfield 45, 0, 7, 7, 0, [139])), (15, (.iload_n 2, 0, 0, 0, 0, [])), (16, (.isub, 0, 0, 0, 0, [])), (17, (.putfield 45, 0, 7, 7, 0, [139])), (20, (.aload_n 1, 0, 0, 0, 0, [])), (21, (.getfield 42, 0, 7, 6, 0, [135])), (24, (.ifCond .ne (10), 0, 34, 0, 0, [])), (27, (.aload_n 1, 0, 0, 0, 0, [])), (28, (.invokevirtual 101, 0, 106, 0, 0, [616, 568, 569, 69, 570, 7])), (31, (.goto (15), 0, 46, 0, 0, [])), (34, (.aload_n 1, 0, 0, 0, 0, [])), (35, (.getfield 45, 0, 7, 7, 0, [139])), (38, (.ifCond .ne (8), 0, 46, 0, 0, [])), (41, (.aload_n 0, 0, 0, 0, 0, [])), (42, (.aload_n 1, 0, 0, 0, 0, [])), (43, (.invokevirtual 104, 0, 5, 1, 0, [617, 618, 619, 68, 620, 0])), (46, (.return_, 0, 0, 0, 0, []))]
abbrev rm_X0_useShown : Room := { frames := 2, cells := 0, slots := 0, locals := 41 }
theorem ok_X0_useShown : ∀ q ∈ rw_X0_useShown, m_rowB m_mt RX0 false cX0_useShown rm_X0_useShown q = true := List.all_eq_true.mp (by decide +kernel)
def rw_X0_useAll : List (Nat × mRow) := [(0, (.aload_n 1, 0, 0, 0, 0, [])), (1, (.dup, 0, 0, 0, 0, [])), (2, (.getfield 42, 0, 7, 6, 0, [135])), (5, (.iload_n 2, 0, 0, 0, 0, [])), (6, (.isub, 0, 0, 0, 0, [])), (7, (.putfield 42, 0, 7, 6, 0, [135])), (10, (.aload_n 1, 0, 0, 0, 0, [])), (11, (.getfield 42, 0, 7, 6, 0, [135])), (14, (.ifCond .ne (10), 0, 24, 0, 0, [])), (17, (.aload_n 1, 0, 0, 0, 0, [])), (18, (.invokevirtual 101, 0, 106, 0, 0, [616, 568, 569, 69, 570, 7])), (21, (.goto (7), 0, 28, 0, 0, [])), (24, (.aload_n 1, 0, 0, 0, 0, [])), (25, (.invokevirtual 64, 0, 105, 0, 0, [621, 622, 623, 69, 624, 7])), (28, (.return_, 0, 0, 0, 0, []))]
abbrev rm_X0_useAll : Room := { frames := 1, cells := 0, slots := 0, locals := 20 }
theorem ok_X0_useAll : ∀ q ∈ rw_X0_useAll, m_rowB m_mt RX0 false cX0_useAll rm_X0_useAll q = true := List.all_eq_true.mp (by decide +kernel)
def rw_X0_takeAwayOf : List (Nat × mRow) := [(0, (.iconst 0, 0, 0, 0, 0, [])), (1, (.istore_n 2, 0, 0, 0, 0, [])), (2, (.iload_n 2, 0, 0, 0, 0, [])), (3, (.aload_n 0, 0, 0, 0, 0, [])), (4, (.getfield 20, 0, 0, 1, 0, [187])), (7, (.if_icmp .ge (40), 0, 47, 0, 0, [])), (10, (.iload_n 2, 0, 0, 0, 0, [])), (11, (.aload_n 0, 0, 0, 0, 0, [])), (12, (.getfield 11, 0, 0, 0, 0, [185])), (15, (.arraylength, 0, 0, 0, 0, [])), (16, (.if_icmp .ge (31), 0, 47, 0, 0, [])), (19, (.aload_n 0, 0, 0, 0, 0, [])), (20, (.getfield 11, 0, 0, 0, 0, [185])), (23, (.iload_n 2, 0, 0, 0, 0, [])), (24, (.aaload, 0, 0, 0, 0, [])), (25, (.getfield 27, 0, 7, 1, 0, [115])), (28, (.iload_n 1, 0, 0, 0, 0, [])), (29, (.if_icmp .ne (12), 0, 41, 0, 0, [])), (32, (.aload_n 0, 0, 0, 0, 0, [])), (33, (.getfield 11, 0, 0, 0, 0, [185])), (36, (.iload_n 2, 0, 0, 0, 0, [])), (37, (.aaload, 0, 0, 0, 0, [])), (38, (.invokevirtual 101, 0, 106, 0, 0, [616, 568, 569, 69, 570, 7])), (41, (.iinc 2 1, 0, 0, 0, 0, [])), (44, (.goto (-42), 0, 2, 0, 0, [])), (47, (.return_, 0, 0, 0, 0, []))]
abbrev rm_X0_takeAwayOf : Room := { frames := 1, cells := 0, slots := 0, locals := 20 }
theorem ok_X0_takeAwayOf : ∀ q ∈ rw_X0_takeAwayOf, m_rowB m_mt RX0 false cX0_takeAwayOf rm_X0_takeAwayOf q = true := List.all_eq_true.mp (by decide +kernel)
def rw_X0_divide : List (Nat × mRow) := [(0, (.iconst 0, 0, 0, 0, 0, [])), (1, (.istore_n 3, 0, 0, 0, 0, [])), (2, (.iload_n 3, 0, 0, 0, 0, [])), (3, (.aload_n 0, 0, 0, 0, 0, [])), (4, (.getfield 20, 0, 0, 1, 0, [187])), (7, (.if_icmp .ge (41), 0, 48, 0, 0, [])), (10, (.iload_n 3, 0, 0, 0, 0, [])), (11, (.aload_n 0, 0, 0, 0, 0, [])), (12, (.getfield 11, 0, 0, 0, 0, [185])), (15, (.arraylength, 0, 0, 0, 0, [])), (16, (.if_icmp .ge (32), 0, 48, 0, 0, [])), (19, (.aload_n 0, 0, 0, 0, 0, [])), (20, (.getfield 11, 0, 0, 0, 0, [185])), (23, (.iload_n 3, 0, 0, 0, 0, [])), (24, (.aaload, 0, 0, 0, 0, [])), (25, (.getfield 30, 0, 7, 2, 0, [121])), (28, (.iload_n 1, 0, 0, 0, 0, [])), (29, (.if_icmp .ne (13), 0, 42, 0, 0, [])), (32, (.aload_n 0, 0, 0, 0, 0, [])), (33, (.getfield 11, 0, 0, 0, 0, [185])), (36, (.iload_n 3, 0, 0, 0, 0, [])), (37, (.aaload, 0, 0, 0, 0, [])), (38, (.iload_n 2, 0, 0, 0, 0, [])), (39, (.invokevirtual 108, 0, 107, 1, 0, [716, 717, 718, 69, 719, 7])), (42, (.iinc 3 1, 0, 0, 0, 0, [])), (45, (.goto (-43), 0, 2, 0, 0, [])), (48, (.return_, 0, 0, 0, 0, []))]
abbrev rm_X0_divide : Room := { frames := 3, cells := 0, slots := 0, locals := 65 }
theorem ok_X0_divide : ∀ q ∈ rw_X0_divide, m_rowB m_mt RX0 false cX0_divide rm_X0_divide q = true := List.all_eq_true.mp (by decide +kernel)
def rw_X0_firstToWake : List (Nat × mRow) := [(0, (.iconst 0, 0, 0, 0, 0, [])), (1, (.istore_n 2, 0, 0, 0, 0, [])), (2, (.iload_n 2, 0, 0, 0, 0, [])), (3, (.aload_n 0, 0, 0, 0, 0, [])), (4, (.getfield 20, 0, 0, 1, 0, [187])), (7, (.if_icmp .ge (70), 0, 77, 0, 0, [])), (10, (.iload_n 2, 0, 0, 0, 0, [])), (11, (.aload_n 0, 0, 0, 0, 0, [])), (12, (.getfield 11, 0, 0, 0, 0, [185])), (15, (.arraylength, 0, 0, 0, 0, [])), (16, (.if_icmp .ge (61), 0, 77, 0, 0, [])), (19, (.aload_n 0, 0, 0, 0, 0, [])), (20, (.getfield 11, 0, 0, 0, 0, [185])), (23, (.iload_n 2, 0, 0, 0, 0, [])), (24, (.aaload, 0, 0, 0, 0, [])), (25, (.astore_n 3, 0, 0, 0, 0, [])), (26, (.aload_n 1, 0, 0, 0, 0, [])), (27, (.aload_n 3, 0, 0, 0, 0, [])), (28, (.getfield 30, 0, 7, 2, 0, [121])), (31, (.invokevirtual 111, 0, 24, 1, 0, [825, 530, 531, 70, 532, 2])), (34, (.astore 4, 0, 0, 0, 0, [])), (36, (.aload_n 3, 0, 0, 0, 0, [])), (37, (.getfield 51, 0, 7, 9, 0, [147])), (40, (.iconst 2, 0, 0, 0, 0, [])), (41, (.if_icmp .ne (30), 0, 71, 0, 0, [])), (44, (.aload 4, 0, 0, 0, 0, [])), (46, (.ifnull (25), 0, 71, 0, 0, [])), (49, (.aload 4, 0, 0, 0, 0, [])), (51, (.invokevirtual 117, 0, 112, 0, 0, [826, 827, 828, 72, 829, 8])), (54, (.ifCond .eq (17), 0, 71, 0, 0, [])), (57, (.aload_n 3, 0, 0, 0, 0, [])), (58, (.aload 4, 0, 0, 0, 0, [])), (60, (.getfield 122, 0, 8, 2, 0, [275])), (63, (.invokevirtual 125, 0, 104, 1, 0, [830, 831, 832, 69, 833, 7])), (66, (.ifCond .eq (5), 0, 71, 0, 0, [])), (69, (.aload_n 3, 0, 0, 0, 0, [])), (70, (.areturn, 0, 0, 0, 0, [])), (71, (.iinc 2 1, 0, 0, 0, 0, [])), (74, (.goto (-72), 0, 2, 0, 0, [])), (77, (.aconst_null, 0, 0, 0, 0, [])), (78, (.areturn, 0, 0, 0, 0, []))]
abbrev rm_X0_firstToWake : Room := { frames := 1, cells := 0, slots := 0, locals := 21 }
theorem ok_X0_firstToWake : ∀ q ∈ rw_X0_firstToWake, m_rowB m_mt RX0 false cX0_firstToWake rm_X0_firstToWake q = true := List.all_eq_true.mp (by decide +kernel)
def rw_X0_isSameAs : List (Nat × mRow) := [(0, (.aload_n 0, 0, 0, 0, 0, [])), (1, (.getfield 20, 0, 0, 1, 0, [187])), (4, (.aload_n 1, 0, 0, 0, 0, [])), (5, (.getfield 20, 0, 0, 1, 0, [187])), (8, (.if_icmp .ne (18), 0, 26, 0, 0, [])), (11, (.aload_n 0, 0, 0, 0, 0, [])), (12, (.getfield 24, 0, 0, 2, 0, [189])), (15, (.aload_n 1, 0, 0, 0, 0, [])), (16, (.getfield 24, 0, 0, 2, 0, [189])), (19, (.if_icmp .ne (7), 0, 26, 0, 0, [])), (22, (.iconst 1, 0, 0, 0, 0, [])), (23, (.goto (4), 0, 27, 0, 0, [])), (26, (.iconst 0, 0, 0, 0, 0, [])), (27, (.istore_n 2, 0, 0, 0, 0, [])), (28, (.iconst 0, 0, 0, 0, 0, [])), (29, (.istore_n 3, 0, 0, 0, 0, [])), (30, (.iload_n 2, 0, 0, 0, 0, [])), (31, (.ifCond .eq (51), 0, 82, 0, 0, [])), (34, (.iload_n 3, 0, 0, 0, 0, [])), (35, (.aload_n 0, 0, 0, 0, 0, [])), (36, (.getfield 20, 0, 0, 1, 0, [187])), (39, (.if_icmp .ge (43), 0, 82, 0, 0, [])), (42, (.iload_n 3, 0, 0, 0, 0, [])), (43, (.aload_n 0, 0, 0, 0, 0, [])), (44, (.getfield 11, 0, 0, 0, 0, [185])), (47, (.arraylength, 0, 0, 0, 0, [])), (48, (.if_icmp .ge (34), 0, 82, 0, 0, [])), (51, (.iload_n 3, 0, 0, 0, 0, [])), (52, (.aload_n 1, 0, 0, 0, 0, [])), (53, (.getfield 11, 0, 0, 0, 0, [185])), (56, (.arraylength, 0, 0, 0, 0, [])), (57, (.if_icmp .ge (25), 0, 82, 0, 0, [])), (60, (.aload_n 0, 0, 0, 0, 0, [])), (61, (.getfield 11, 0, 0, 0, 0, [185])), (64, (.iload_n 3, 0, 0, 0, 0, [])), (65, (.aaload, 0, 0, 0, 0, [])), (66, (.aload_n 1, 0, 0, 0, 0, [])), (67, (.getfield 11, 0, 0, 0, 0, [185])), (70, (.iload_n 3, 0, 0, 0, 0, [])), (71, (.aaload, 0, 0, 0, 0, [])), (72, (.invokevirtual 128, 0, 108, 1, 0, [842, 843, 844, 69, 845, 7])), (75, (.istore_n 2, 0, 0, 0, 0, [])), (76, (.iinc 3 1, 0, 0, 0, 0, [])), (79, (.goto (-49), 0, 30, 0, 0, [])), (82, (.iload_n 2, 0, 0, 0, 0, [])), (83, (.ireturn, 0, 0, 0, 0, []))]
abbrev rm_X0_isSameAs : Room := { frames := 2, cells := 0, slots := 0, locals := 41 }
theorem ok_X0_isSameAs : ∀ q ∈ rw_X0_isSameAs, m_rowB m_mt RX0 false cX0_isSameAs rm_X0_isSameAs q = true := List.all_eq_true.mp (by decide +kernel)
end
section
/-! rows of the methods, and that they are as the code and the tables have them -/
def rw_X7_init : List (Nat × mRow) := [(0, (.aload_n 0, 0, 0, 0, 0, [])), (1, (.invokespecial 3, 0, 2000, 0, 0, [112, 92, 0, 0, 93])), (4, (.aload_n 0, 0, 0, 0, 0, [])), (5, (.iload_n 1, 0, 0, 0, 0, [])), (6, (.putfield 9, 0, 7, 0, 0, [113])), (9, (.return_, 0, 0, 0, 0, []))]
abbrev rm_X7_init : Room := { frames := 1, cells := 0, slots := 0, locals := 20 }
theorem ok_X7_init : ∀ q ∈ rw_X7_init, m_rowB m_mt RX7 true cX7_init rm_X7_init q = true := List.all_eq_true.mp (by decide +kernel)
def rw_X7_isGone : List (Nat × mRow) := [(0, (.aload_n 0, 0, 0, 0, 0, [])), (1, (.getfield 15, 0, 7, 9, 0, [146])), (4, (.ifCond .ne (7), 0, 11, 0, 0, [])), (7, (.iconst 1, 0, 0, 0, 0, [])), (8, (.goto (4), 0, 12, 0, 0, [])), (11, (.iconst 0, 0, 0, 0, 0, [])), (12, (.ireturn, 0, 0, 0, 0, []))]
abbrev rm_X7_isGone : Room := { frames := 0, cells := 0, slots := 0, locals := 0 }
theorem ok_X7_isGone : ∀ q ∈ rw_X7_isGone, m_rowB m_mt RX7 false cX7_isGone rm_X7_isGone q = true := List.all_eq_true.mp (by decide +kernel)
def rw_X7_stands : List (Nat × mRow) := [(0, (.aload_n 0, 0, 0, 0, 0, [])), (1, (.getfield 15, 0, 7, 9, 0, [146])), (4, (.iconst 1, 0, 0, 0, 0, [])), (5, (.if_icmp .ne (7), 0, 12, 0, 0, [])), (8, (.iconst 1, 0, 0, 0, 0, [])), (9, (.goto (4), 0, 13, 0, 0, [])), (12, (.iconst 0, 0, 0, 0, 0, [])), (13, (.ireturn, 0, 0, 0, 0, []))]
abbrev rm_X7_stands : Room := { frames := 0, cells := 0, slots := 0, locals := 0 }
theorem ok_X7_stands : ∀ q ∈ rw_X7_stands, m_rowB m_mt RX7 false cX7_stands rm_X7_stands q = true := List.all_eq_true.mp (by decide +kernel)
def rw_X7_standsIn : List (Nat × mRow) := [(0, (.aload_n 0, 0, 0, 0, 0, [])), (1, (.getfield 15, 0, 7, 9, 0, [146])), (4, (.iconst 1, 0, 0, 0, 0, [])), (5, (.if_icmp .ne (23), 0, 28, 0, 0, [])), (8, (.aload_n 0, 0, 0, 0, 0, [])), (9, (.getfield 18, 0, 7, 2, 0, [120])), (12, (.iload_n 1, 0, 0, 0, 0, [])), (13, (.if_icmp .ne (15), 0, 28, 0, 0, [])), (16, (.aload_n 0, 0, 0, 0, 0, [])), (17, (.getfield 21, 0, 7, 3, 0, [124])), (20, (.iload_n 2, 0, 0, 0, 0, [])), (21, (.if_icmp .ne (7), 0, 28, 0, 0, [])), (24, (.iconst 1, 0, 0, 0, 0, [])), (25, (.goto (4), 0, 29, 0, 0, [])), (28, (.iconst 0, 0, 0, 0, 0, [])), (29, (.ireturn, 0, 0, 0, 0, []))]
abbrev rm_X7_standsIn : Room := { frames := 0, cells := 0, slots := 0, locals := 0 }
theorem ok_X7_standsIn : ∀ q ∈ rw_X7_standsIn, m_rowB m_mt RX7 false cX7_standsIn rm_X7_standsIn q = true := List.all_eq_true.mp (by decide +kernel)
def rw_X7_canBeTied : List (Nat × mRow) := [(0, (.aload_n 0, 0, 0, 0, 0, [])), (1, (.getfield 15, 0, 7, 9, 0, [146])), (4, (.ifCond .eq (14), 0, 18, 0, 0, [])), (7, (.aload_n 0, 0, 0, 0, 0, [])), (8, (.getfield 24, 0, 7, 12, 0, [155])), (11, (.ifnonnull (7), 0, 18, 0, 0, [])), (14, (.iconst 1, 0, 0, 0, 0, [])), (15, (.goto (4), 0, 19, 0, 0, [])), (18, (.iconst 0, 0, 0, 0, 0, [])), (19, (.ireturn, 0, 0, 0, 0, []))]
abbrev rm_X7_canBeTied : Room := { frames := 0, cells := 0, slots := 0, locals := 0 }
theorem ok_X7_canBeTied : ∀ q ∈ rw_X7_canBeTied, m_rowB m_mt RX7 false cX7_canBeTied rm_X7_canBeTied q = true := List.all_eq_true.mp (by decide +kernel)
def rw_X7_isAheadOf : List (Nat × mRow) := [(0, (.aload_n 0, 0, 0, 0, 0, [])), (1, (.getfield 28, 0, 7, 4, 0, [129])), (4, (.aload_n 1, 0, 0, 0, 0, [])), (5, (.getfield 28, 0, 7, 4, 0, [129])), (8, (.if_icmp .ne (20), 0, 28, 0, 0, [])), (11, (.aload_n 0, 0, 0, 0, 0, [])), (12, (.getfield 31, 0, 7, 11, 0, [154])), (15, (.aload_n 1, 0, 0, 0, 0, [])), (16, (.getfield 31, 0, 7, 11, 0, [154])), (19, (.if_icmp .ge (7), 0, 26, 0, 0, [])), (22, (.iconst 1, 0, 0, 0, 0, [])), (23, (.goto (4), 0, 27, 0, 0, [])), (26, (.iconst 0, 0, 0, 0, 0, [])), (27, (.ireturn, 0, 0, 0, 0, [])), (28, (.aload_n 0, 0, 0, 0, 0, [])), (29, (.getfield 21, 0, 7, 3, 0, [124])), (32, (.ifCond .ne (22), 0, 54, 0, 0, [])), (35, (.aload_n 0, 0, 0, 0, 0, [])), (36, (.getfield 28, 0, 7, 4, 0, [129])), (39, (.aload_n 1, 0, 0, 0, 0, [])), (40, (.getfield 28, 0, 7, 4, 0, [129])), (43, (.if_icmp .le (7), 0, 50, 0, 0, [])), (46, (.iconst 1, 0, 0, 0, 0, [])), (47, (.goto (23), 0, 70, 0, 0, [])), (50, (.iconst 0, 0, 0, 0, 0, [])), (51, (.goto (19), 0, 70, 0, 0, [])), (54, (.aload_n 0, 0, 0, 0, 0, [])), (55, (.getfield 28, 0, 7, 4, 0, [129])), (58, (.aload_n 1, 0, 0, 0, 0, [])), (59, (.getfield 28, 0, 7, 4, 0, [129])), (62, (.if_icmp .ge (7), 0, 69, 0, 0, [])), (65, (.iconst 1, 0, 0, 0, 0, [])), (66, (.goto (4), 0, 70, 0, 0, [])), (69, (.iconst 0, 0, 0, 0, 0, [])), (70, (.ireturn, 0, 0, 0, 0, []))]
abbrev rm_X7_isAheadOf : Room := { frames := 0, cells := 0, slots := 0, locals := 0 }
theorem ok_X7_isAheadOf : ∀ q ∈ rw_X7_isAheadOf, m_rowB m_mt RX7 false cX7_isAheadOf rm_X7_isAheadOf q = true := List.all_eq_true.mp (by decide +kernel)
def rw_X7_isGoodFor : List (Nat × mRow) := [(0, (.aload_n 0, 0, 0, 0, 0, [])), (1, (.getfield 21, 0, 7, 3, 0, [124])), (4, (.ifCond .ne (19), 0, 23, 0, 0, [])), (7, (.aload_n 0, 0, 0, 0, 0, [])), (8, (.getfield 28, 0, 7, 4, 0, [129])), (11, (.iload_n 1, 0, 0, 0, 0, [])), (12, (.if_icmp .lt (7), 0, 19, 0, 0, [])), (15, (.iconst 1, 0, 0, 0, 0, [])), (16, (.goto (20), 0, 36, 0, 0, [])), (19, (.iconst 0, 0, 0, 0, 0, [])), (20, (.goto (16), 0, 36, 0, 0, [])), (23, (.aload_n 0, 0, 0, 0, 0, [])), (24, (.getfield 28, 0, 7, 4, 0, [129])), (27, (.iload_n 1, 0, 0, 0, 0, [])), (28, (.if_icmp .gt (7), 0, 35, 0, 0, [])), (31, (.iconst 1, 0, 0, 0, 0, [])), (32, (.goto (4), 0, 36, 0, 0, [])), (35, (.iconst 0, 0, 0, 0, 0, [])), (36, (.ireturn, 0, 0, 0, 0, []))]
abbrev rm_X7_isGoodFor : Room := { frames := 0, cells := 0, slots := 0, locals := 0 }
theorem ok_X7_isGoodFor : ∀ q ∈ rw_X7_isGoodFor, m_rowB m_mt RX7 false cX7_isGoodFor rm_X7_isGoodFor q = true := List.all_eq_true.mp (by decide +kernel)
def rw_X7_wakesAt : List (Nat × mRow) := [(0, (.aload_n 0, 0, 0, 0, 0, [])), (1, (.getfield 21, 0, 7, 3, 0, [124])), (4, (.ifCond .ne (19), 0, 23, 0, 0, [])), (7, (.iload_n 1, 0, 0, 0, 0, [])), (8, (.aload_n 0, 0, 0, 0, 0, [])), (9, (.getfield 34, 0, 7, 8, 0, [144])), (12, (.if_icmp .lt (7), 0, 19, 0, 0, [])), (15, (.iconst 1, 0, 0, 0, 0, [])), (16, (.goto (20), 0, 36, 0, 0, [])), (19, (.iconst 0, 0, 0, 0, 0, [])), (20, (.goto (16), 0, 36, 0, 0, [])), (23, (.iload_n 1, 0, 0, 0, 0, [])), (24, (.aload_n 0, 0, 0, 0, 0, [])), (25, (.getfield 34, 0, 7, 8, 0, [144])), (28, (.if_icmp .gt (7), 0, 35, 0, 0, [])), (31, (.iconst 1, 0, 0, 0, 0, [])), (32, (.goto (4), 0, 36, 0, 0, [])), (35, (.iconst 0, 0, 0, 0, 0, [])), (36, (.ireturn, 0, 0, 0, 0, []))]
abbrev rm_X7_wakesAt : Room := { frames := 0, cells := 0, slots := 0, locals := 0 }
theorem ok_X7_wakesAt : ∀ q ∈ rw_X7_wakesAt, m_rowB m_mt RX7 false cX7_wakesAt rm_X7_wakesAt q = true := List.all_eq_true.mp (by decide +kernel)
def rw_X7_showAnew : List (Nat × mRow) := [(0, (.aload_n 0, 0, 0, 0, 0, [])), (1, (.aload_n 0, 0, 0, 0, 0, [])), (2, (.getfield 37, 0, 7, 5, 0, [134])), (5, (.ifCond .eq (14), 0, 19, 0, 0, [])), (8, (.aload_n 0, 0, 0, 0, 0, [])), (9, (.getfield 37, 0, 7, 5, 0, [134])), (12, (.aload_n 0, 0, 0, 0, 0, [])), (13, (.getfield 40, 0, 7, 6, 0, [136])), (16, (.if_icmp .le (10), 0, 26, 0, 0, [])), (19, (.aload_n 0, 0, 0, 0, 0, [])), (20, (.getfield 40, 0, 7, 6, 0, [136])), (23, (.goto (7), 0, 30, 0, 0, [])), (26, (.aload_n 0, 0, 0, 0, 0, [])), (27, (.getfield 37, 0, 7, 5, 0, [134])), (30, (.putfield 43, 0, 7, 7, 0, [140])), (33, (.return_, 0, 0, 0, 0, []))]
abbrev rm_X7_showAnew : Room := { frames := 0, cells := 0, slots := 0, locals := 0 }
theorem ok_X7_showAnew : ∀ q ∈ rw_X7_showAnew, m_rowB m_mt RX7 false cX7_showAnew rm_X7_showAnew q = true := List.all_eq_true.mp (by decide +kernel)
def rw_X7_goAway : List (Nat × mRow) := [(0, (.aload_n 0, 0, 0, 0, 0, [])), (1, (.iconst 0, 0, 0, 0, 0, [])), (2, (.putfield 15, 0, 7, 9, 0, [146])), (5, (.aload_n 0, 0, 0, 0, 0, [])), (6, (.iconst 0, 0, 0, 0, 0, [])), (7, (.putfield 40, 0, 7, 6, 0, [136])), (10, (.aload_n 0, 0, 0, 0, 0, [])), (11, (.iconst 0, 0, 0, 0, 0, [])), (12, (.putfield 43, 0, 7, 7, 0, [140])), (15, (.aload_n 0, 0, 0, 0, 0, [])), (16, (.getfield 24, 0, 7, 12, 0, [155])), (19, (.ifnull (16), 0, 35, 0, 0, [])), (22, (.aload_n 0, 0, 0, 0, 0, [])), (23, (.getfield 24, 0, 7, 12, 0, [155])), (26, (.aconst_null, 0, 0, 0, 0, [])), (27, (.putfield 24, 0, 7, 12, 0, [155])), (30, (.aload_n 0, 0, 0, 0, 0, [])), (31, (.aconst_null, 0, 0, 0, 0, [])), (32, (.putfield 24, 0, 7, 12, 0, [155])), (35, (.return_, 0, 0, 0, 0, []))]
abbrev rm_X7_goAway : Room := { frames := 0, cells := 0, slots := 0, locals := 0 }
theorem ok_X7_goAway : ∀ q ∈ rw_X7_goAway, m_rowB m_mt RX7 false cX7_goAway rm_X7_goAway q = true := List.all_eq_true.mp (by decide +kernel)
def rw_X7_divideBy : List (Nat × mRow) := [(0, (.aload_n 0, 0, 0, 0, 0, [])), (1, (.aload_n 0, 0, 0, 0, 0, [])), (2, (.getfield 28, 0, 7, 4, 0, [129])), (5, (.iload_n 1, 0, 0, 0, 0, [])), (6, (.invokestatic 46, 0, 117, 2, 0, [720, 703, 0, 72, 704, 8])), (9, (.putfield 28, 0, 7, 4, 0, [129])), (12, (.aload_n 0, 0, 0, 0, 0, [])), (13, (.aload_n 0, 0, 0, 0, 0, [])), (14, (.getfield 34, 0, 7, 8, 0, [144])), (17, (.iload_n 1, 0, 0, 0, 0, [])), (18, (.invokestatic 46, 0, 117, 2, 0, [720, 703, 0, 72, 704, 8])), (21, (.putfield 34, 0, 7, 8, 0, [144])), (24, (.aload_n 0, 0, 0, 0, 0, [])), (25, (.dup, 0, 0, 0, 0, [])), (26, (.getfield 37, 0, 7, 5, 0, [134])), (29, (.iload_n 1, 0, 0, 0, 0, [])), (30, (.imul, 0, 0, 0, 0, [])), (31, (.putfield 37, 0, 7, 5, 0, [134])), (34, (.aload_n 0, 0, 0, 0, 0, [])), (35, (.dup, 0, 0, 0, 0, [])), (36, (.getfield 40, 0, 7, 6, 0, [136])), (39, (.iload_n 1, 0, 0, 0, 0, [])), (40, (.imul, 0, 0, 0, 0, [])), (41, (.putfield 40, 0, 7, 6, 0, [136])), (44, (.aload_n 0, 0, 0, 0, 0, [])), (45, (.dup, 0, 0, 0, 0, [])), (46, (.getfield 43, 0, 7, 7, 0, [140])), (49, (.iload_n 1, 0, 0, 0, 0, [])), (50, (.imul, 0, 0, 0, 0, [])), (51, (.putfield 43, 0, 7, 7, 0, [140])), (54, (.return_, 0, 0, 0, 0, []))]
abbrev rm_X7_divideBy : Room := { frames := 2, cells := 0, slots := 0, locals := 44 }
theorem ok_X7_divideBy : ∀ q ∈ rw_X7_divideBy, m_rowB m_mt RX7 false cX7_divideBy rm_X7_divideBy q = true := List.all_eq_true.mp (by decide +kernel)
def rw_X7_isSameAs : List (Nat × mRow) := [(0, (.aload_n 0, 0, 0, 0, 0, [])), (1, (.getfield 52, 0, 7, 1, 0, [118])), (4, (.aload_n 1, 0, 0, 0, 0, [])), (5, (.getfield 52, 0, 7, 1, 0, [118])), (8, (.if_icmp .ne (128), 0, 136, 0, 0, [])), (11, (.aload_n 0, 0, 0, 0, 0, [])), (12, (.getfield 18, 0, 7, 2, 0, [120])), (15, (.aload_n 1, 0, 0, 0, 0, [])), (16, (.getfield 18, 0, 7, 2, 0, [120])), (19, (.if_icmp .ne (117), 0, 136, 0, 0, [])), (22, (.aload_n 0, 0, 0, 0, 0, [])), (23, (.getfield 21, 0, 7, 3, 0, [124])), (26, (.aload_n 1, 0, 0, 0, 0, [])), (27, (.getfield 21, 0, 7, 3, 0, [124])), (30, (.if_icmp .ne (106), 0, 136, 0, 0, [])), (33, (.aload_n 0, 0, 0, 0, 0, [])), (34, (.getfield 28, 0, 7, 4, 0, [129])), (37, (.aload_n 1, 0, 0, 0, 0, [])), (38, (.getfield 28, 0, 7, 4, 0, [129])), (41, (.if_icmp .ne (95), 0, 136, 0, 0, [])), (44, (.aload_n 0, 0, 0, 0, 0, [])), (45, (.getfield 37, 0, 7, 5, 0, [134])), (48, (.aload_n 1, 0, 0, 0, 0, [])), (49, (.getfield 37, 0, 7, 5, 0, [134])), (52, (.if_icmp .ne (84), 0, 136, 0, 0, [])), (55, (.aload_n 0, 0, 0, 0, 0, [])), (56, (.getfield 40, 0, 7, 6, 0, [136])), (59, (.aload_n 1, 0, 0, 0, 0, [])), (60, (.getfield 40, 0, 7, 6, 0, [136])), (63, (.if_icmp .ne (73), 0, 136, 0, 0, [])), (66, (.aload_n 0, 0, 0, 0, 0, [])), (67, (.getfield 43, 0, 7, 7, 0, [140])), (70, (.aload_n 1, 0, 0, 0, 0, [])), (71, (.getfield 43, 0, 7, 7, 0, [140])), (74, (.if_icmp .ne (62), 0, 136, 0, 0, [])), (77, (.aload_n 0, 0, 0, 0, 0, [])), (78, (.getfield 34, 0, 7, 8, 0, [144])), (81, (.aload_n 1, 0, 0, 0, 0, [])), (82, (.getfield 34, 0, 7, 8, 0, [144])), (85, (.if_icmp .ne (51), 0, 136, 0, 0, [])), (88, (.aload_n 0, 0, 0, 0, 0, [])), (89, (.getfield 15, 0, 7, 9, 0, [146])), (92, (.aload_n 1, 0, 0, 0, 0, [])), (93, (.getfield 15, 0, 7, 9, 0, [146])), (96, (.if_icmp .ne (40), 0, 136, 0, 0, [])), (99, (.aload_n 0, 0, 0, 0, 0, [])), (100, (.getfield 55, 0, 7, 10, 0, [152])), (103, (.aload_n 1, 0, 0, 0, 0, [])), (104, (.getfield 55, 0, 7, 10, 0, [152])), (107, (.if_icmp .ne (29), 0, 136, 0, 0, [])), (110, (.aload_n 0, 0, 0, 0, 0, [])), (111, (.getfield 31, 0, 7, 11, 0, [154])), (114, (.aload_n 1, 0, 0, 0, 0, [])), (115, (.getfield 31, 0, 7, 11, 0, [154])), (118, (.if_icmp .ne (18), 0, 136, 0, 0, [])), (121, (.aload_n 0, 0, 0, 0, 0, [])), (122, (.invokevirtual 58, 0, 109, 0, 0, [846, 848, 19, 69, 849, 7])), (125, (.aload_n 1, 0, 0, 0, 0, [])), (126, (.invokevirtual 58, 0, 109, 0, 0, [846, 848, 19, 69, 849, 7])), (129, (.if_icmp .ne (7), 0, 136, 0, 0, [])), (132, (.iconst 1, 0, 0, 0, 0, [])), (133, (.goto (4), 0, 137, 0, 0, [])), (136, (.iconst 0, 0, 0, 0, 0, [])), (137, (.ireturn, 0, 0, 0, 0, []))]
abbrev rm_X7_isSameAs : Room := { frames := 1, cells := 0, slots := 0, locals := 20 }
theorem ok_X7_isSameAs : ∀ q ∈ rw_X7_isSameAs, m_rowB m_mt RX7 false cX7_isSameAs rm_X7_isSameAs q = true := List.all_eq_true.mp (by decide +kernel)
def rw_X7_tiedNumber : List (Nat × mRow) := [(0, (.aload_n 0, 0, 0, 0, 0, [])), (1, (.getfield 24, 0, 7, 12, 0, [155])), (4, (.ifnonnull (7), 0, 11, 0, 0, [])), (7, (.iconst (-1), 0, 0, 0, 0, [])), (8, (.goto (10), 0, 18, 0, 0, [])), (11, (.aload_n 0, 0, 0, 0, 0, [])), (12, (.getfield 24, 0, 7, 12, 0, [155])), (15, (.getfield 9, 0, 7, 0, 0, [113])), (18, (.ireturn, 0, 0, 0, 0, []))]
abbrev rm_X7_tiedNumber : Room := { frames := 0, cells := 0, slots := 0, locals := 0 }
theorem ok_X7_tiedNumber : ∀ q ∈ rw_X7_tiedNumber, m_rowB m_mt RX7 false cX7_tiedNumber rm_X7_tiedNumber q = true := List.all_eq_true.mp (by decide +kernel)
end
section
/-! a contract out of the method's steps -/
def m_T (Q : mX → mS → Prop) (mc ms : Nat) : Nat → List (Option mV) → mS → Nat → Nat → Nat → Prop := fun _ _ σ k n x => k ≤ mc ∧ n ≤ ms ∧ Q (.inr x) σ
/-- the same heap, as far as there is one -/
def m_agree (σ τ : mS) : Prop := (∀ c, σ.1 c = τ.1 c) ∧ (∀ c i, i < σ.1 c → σ.2.1 c i = τ.2.1 c i) ∧ ∀ c i k, i < σ.1 c → (c < 13 → k < m_nf c) → (13 ≤ c → k < σ.2.1 c i) → m_get σ c i k = m_get τ c i k
theorem m_agree.rf (σ : mS) : m_agree σ σ := ⟨fun _ => rfl, fun _ _ _ => rfl, fun _ _ _ _ _ _ => rfl⟩
theorem m_agree.tr {σ τ υ : mS} (h : m_agree σ τ) (g : m_agree τ υ) : m_agree σ υ :=
  ⟨fun c => (h.1 c).trans (g.1 c), fun c i hi => (h.2.1 c i hi).trans (g.2.1 c i (by rw [← h.1 c]; exact hi)), fun c i k hi h1 h2 => (h.2.2 c i k hi h1 h2).trans (g.2.2 c i k (by rw [← h.1 c]; exact hi) h1 (fun z => by rw [← h.2.1 c i hi]; exact h2 z))⟩
theorem m_agree.sy {σ τ : mS} (h : m_agree σ τ) : m_agree τ σ :=
  ⟨fun c => (h.1 c).symm, fun c i hi => (h.2.1 c i (by rw [h.1 c]; exact hi)).symm, fun c i k hi h1 h2 => (h.2.2 c i k (by rw [h.1 c]; exact hi) h1 (fun z => by rw [h.2.1 c i (by rw [h.1 c]; exact hi)]; exact h2 z)).symm⟩
theorem m_X.ag {D : va_G} {ty : List (ClassId × FieldType)} {s : State} {xs : Option (Nat × (Nat → Int32))} {ρ : Nat → Nat → Option Nat} {σ τ : mS} {H : Heap} (h : m_X D ty s xs ρ σ H) (g : m_agree σ τ) : m_X D ty s xs ρ τ H := by
  refine ⟨h.1, fun c i hi => h.2.1 c i (by rw [g.1 c]; exact hi), fun c i a ha => by rw [← g.1 c]; exact h.2.2.1 c i a ha, fun c i a ha => ?_⟩
  have hi := h.2.2.1 c i a ha
  rcases h.2.2.2 c i a ha with h1 | ⟨h1, h2⟩
  · exact Or.inl h1
  · refine Or.inr ⟨h1, ?_⟩
    rcases h2 with ⟨r, e1, V, e2, e3⟩ | ⟨j, q, e1, e2, f, e3, e4⟩
    · refine Or.inl ⟨r, e1, V, e2, fun k hk => ?_⟩
      have hlt := m_cls_lt e1
      rw [← g.2.2 c i k hi (fun _ => by unfold m_nf; rw [e1]; exact hk) (fun z => by omega)]
      exact e3 k hk
    · refine Or.inr ⟨j, q, e1, e2, f, by rw [← g.2.1 c i hi]; exact e3, fun k hk => ?_⟩
      rw [← g.2.1 c i hi] at hk
      rw [← g.2.2 c i k hi (fun z => by omega) (fun _ => hk)]
      exact e4 k hk
theorem m_con_go {l : Launch} (hl : l.stackTraces = false) {mt : List mMt} {y : MethodName} {cc : ByteArray} {maxL mc ms : Nat} {ret : Option FieldType} {rm : Room} {avs : List mV} {σ : mS} {Q : mX → mS → Prop} {rows : List (Nat × mRow)} {ini : Bool} (hok : ∀ q ∈ rows, m_rowB mt y.cls ini cc rm q = true) (hy : plainName y.cls = true) (hn : (m_args avs).length ≤ maxL) (hini : ini = true → y.name = "<init>")
    (body : ∀ (xs : Option (Nat × (Nat → Int32))) (J : Nat → List (Option mV) → List mV → mS → Nat → Nat → Prop),
      (∀ (pc : Nat) (L : List (Option mV)) (st : List mV) (σ : mS) (k n : Nat), m_step mt l ret rm maxL rows mc ms Q xs (m_T Q mc ms) J pc L st σ k n → J pc L st σ k n) →
      (∀ (pc : Nat) (L : List (Option mV)) (st : List mV) (σ τ : mS) (k n : Nat), m_agree σ τ → J pc L st τ k n → J pc L st σ k n) →
      (∀ (pc : Nat) (L : List (Option mV)) (st : List mV) (σ : mS) (k n k' n' : Nat), k ≤ k' → n ≤ n' → J pc L st σ k' n' → J pc L st σ k n) → J 0 (m_L0 maxL avs) [] σ 0 0) : m_Con l y (m_W y cc maxL ret) rm mc ms avs σ Q :=
  m_con_of hl hy hn (fun p e s m args below meth cd D ty xs A ρ0 C hex hrt hnm => body xs (m_J p l e rm s m args below meth cd (vx_MQ below (m_Qc D ty xs A ρ0 Q) (m_XC D ty xs A ρ0 Q) args s mc ms A) A ρ0 (m_X D ty s xs))
    (fun pc L st σ k n h => m_go C (fun _ => hex) hrt (fun z => hnm.trans (hini z)) hok h (fun pc L σ k n x hT => m_jx_out (fun x h => (hex x h).elim) C.2.2.2.2.2.2.2.1 hT.1 hT.2.1 hT.2.2) (fun _ _ _ _ _ _ h => h))
    (fun pc L st σ τ k n hg hJ ρ H locs ls sw h1 h2 h3 h4 h5 h6 => hJ ρ H locs ls sw h1 (h2.ag hg) h3 h4 h5 h6)
    (fun pc L st σ k n k' n' hk hn hJ ρ H locs ls sw h1 h2 h3 h4 h5 h6 => W.widen hk hn (hJ ρ H locs ls sw h1 h2 h3 h4 h5 h6)))
/-- a contract from another heap that is the same -/
theorem m_con_ag {l : Launch} {y : MethodName} {ws : List Cond} {rm : Room} {mc ms : Nat} {avs : List mV} {σ τ : mS} {Q : mX → mS → Prop} (h : m_Con l y ws rm mc ms avs τ Q) (g : m_agree σ τ) : m_Con l y ws rm mc ms avs σ Q := by
  intro D ty xs A ρ
  have h9 := h D ty xs A ρ
  intro p e ha hc hk s m args below hf hap hP hX
  exact h9 p e ha hc hk s m args below hf hap ⟨hP.1, hP.2.1.ag g, hP.2.2⟩ hX
theorem con_X7_isGone {l : Launch} (hl : l.stackTraces = false) {σ : mS} {i : Nat} {Q : mX → mS → Prop} (h : ∀ v : Int32, (v = 0 ∨ v = 1) → (v = 1 ↔ m_i σ 7 i 9 = 0) → Q (.inl (some (.inl v))) σ) : m_Con l yX7_isGone (m_W yX7_isGone cX7_isGone 1 (some .boolean)) rm_X7_isGone 0 0 [.inr (.inr (some (7, i)))] σ Q := by
  refine m_con_go hl ok_X7_isGone (by decide +kernel) (Nat.le_of_ble_eq_true rfl) (fun h => by cases h) fun xs J hJ hA hW => ?_
  repeat' first
    | rfl
    | exact Or.inl rfl
    | exact Or.inr ⟨rfl, Or.inl rfl⟩
    | exact Or.inr ⟨rfl, Or.inr rfl⟩
    | exact Nat.le_refl _
    | exact ⟨by decide, by decide⟩
    | (apply And.intro)
    | intro h0
    | (apply hJ)
  · exact h 0 (Or.inl rfl) ⟨fun z => by cases z, fun z => absurd z h0⟩
  · exact h 1 (Or.inr rfl) ⟨fun _ => Decidable.of_not_not h0, fun _ => rfl⟩
end
