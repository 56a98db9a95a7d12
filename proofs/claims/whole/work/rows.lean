section
-- ===== PART A: goes FIRST, ahead of the names: the tables' words, and 'selects' of the private methods out of them =====
/-- a private method of a class that the tables say can be made, by its rows of tables_1 -/
def lw_okq (q : MethodName × Nat) : Prop := (q.1.cls ≠ "java/lang/invoke/MethodHandle" ∧ q.1.cls ≠ "java/lang/invoke/VarHandle") ∧ Cond.instantiable q.1.cls q.2 ∈ tables_1 ∧ Cond.privateMethod q.1 ∈ tables_1 ∧ Cond.instanceMethod q.1 ∈ tables_1
theorem lw_p0 : lw_okq (⟨"GoodsUnderWay", "found", "(I)I"⟩, 9) := ⟨⟨by decide +kernel, by decide +kernel⟩, List.mem_of_getElem? (i := 18) (by decide +kernel), List.mem_of_getElem? (i := 334) (by decide +kernel), List.mem_of_getElem? (i := 335) (by decide +kernel)⟩
theorem lw_p1 : lw_okq (⟨"GoodsUnderWay", "isAsked", "(II)Z"⟩, 9) := ⟨⟨by decide +kernel, by decide +kernel⟩, List.mem_of_getElem? (i := 18) (by decide +kernel), List.mem_of_getElem? (i := 502) (by decide +kernel), List.mem_of_getElem? (i := 503) (by decide +kernel)⟩
theorem lw_p2 : lw_okq (⟨"GoodsUnderWay", "mostIn", "(LGoodsUnderWay$World;II)I"⟩, 9) := ⟨⟨by decide +kernel, by decide +kernel⟩, List.mem_of_getElem? (i := 18) (by decide +kernel), List.mem_of_getElem? (i := 506) (by decide +kernel), List.mem_of_getElem? (i := 507) (by decide +kernel)⟩
theorem lw_p3 : lw_okq (⟨"GoodsUnderWay$Network", "addTick", "(I)V"⟩, 17) := ⟨⟨by decide +kernel, by decide +kernel⟩, List.mem_of_getElem? (i := 157) (by decide +kernel), List.mem_of_getElem? (i := 519) (by decide +kernel), List.mem_of_getElem? (i := 520) (by decide +kernel)⟩
theorem lw_p4 : lw_okq (⟨"GoodsUnderWay$Network", "node", "(II)I"⟩, 17) := ⟨⟨by decide +kernel, by decide +kernel⟩, List.mem_of_getElem? (i := 157) (by decide +kernel), List.mem_of_getElem? (i := 527) (by decide +kernel), List.mem_of_getElem? (i := 528) (by decide +kernel)⟩
theorem lw_p5 : lw_okq (⟨"GoodsUnderWay$Network", "addArc", "(IIII)V"⟩, 17) := ⟨⟨by decide +kernel, by decide +kernel⟩, List.mem_of_getElem? (i := 157) (by decide +kernel), List.mem_of_getElem? (i := 531) (by decide +kernel), List.mem_of_getElem? (i := 532) (by decide +kernel)⟩
theorem lw_p6 : lw_okq (⟨"GoodsUnderWay$Network", "putArc", "(III)V"⟩, 17) := ⟨⟨by decide +kernel, by decide +kernel⟩, List.mem_of_getElem? (i := 157) (by decide +kernel), List.mem_of_getElem? (i := 535) (by decide +kernel), List.mem_of_getElem? (i := 536) (by decide +kernel)⟩
theorem lw_p7 : lw_okq (⟨"GoodsUnderWay$Network", "findLevels", "()Z"⟩, 17) := ⟨⟨by decide +kernel, by decide +kernel⟩, List.mem_of_getElem? (i := 157) (by decide +kernel), List.mem_of_getElem? (i := 551) (by decide +kernel), List.mem_of_getElem? (i := 552) (by decide +kernel)⟩
theorem lw_p8 : lw_okq (⟨"GoodsUnderWay$Network", "fill", "()V"⟩, 17) := ⟨⟨by decide +kernel, by decide +kernel⟩, List.mem_of_getElem? (i := 157) (by decide +kernel), List.mem_of_getElem? (i := 555) (by decide +kernel), List.mem_of_getElem? (i := 556) (by decide +kernel)⟩
theorem lw_p9 : lw_okq (⟨"GoodsUnderWay$Network", "push", "(I)I"⟩, 17) := ⟨⟨by decide +kernel, by decide +kernel⟩, List.mem_of_getElem? (i := 157) (by decide +kernel), List.mem_of_getElem? (i := 563) (by decide +kernel), List.mem_of_getElem? (i := 564) (by decide +kernel)⟩
theorem lw_p10 : lw_okq (⟨"GoodsUnderWay$Network", "nextDown", "(I)I"⟩, 17) := ⟨⟨by decide +kernel, by decide +kernel⟩, List.mem_of_getElem? (i := 157) (by decide +kernel), List.mem_of_getElem? (i := 568) (by decide +kernel), List.mem_of_getElem? (i := 569) (by decide +kernel)⟩
theorem lw_p11 : lw_okq (⟨"GoodsUnderWay$Network", "leadsDown", "(II)Z"⟩, 17) := ⟨⟨by decide +kernel, by decide +kernel⟩, List.mem_of_getElem? (i := 157) (by decide +kernel), List.mem_of_getElem? (i := 572) (by decide +kernel), List.mem_of_getElem? (i := 573) (by decide +kernel)⟩
theorem lw_p12 : lw_okq (⟨"GoodsUnderWay", "ticksUntil", "(II)I"⟩, 9) := ⟨⟨by decide +kernel, by decide +kernel⟩, List.mem_of_getElem? (i := 18) (by decide +kernel), List.mem_of_getElem? (i := 580) (by decide +kernel), List.mem_of_getElem? (i := 581) (by decide +kernel)⟩
theorem lw_p13 : lw_okq (⟨"GoodsUnderWay", "sheetFault", "(I)I"⟩, 9) := ⟨⟨by decide +kernel, by decide +kernel⟩, List.mem_of_getElem? (i := 18) (by decide +kernel), List.mem_of_getElem? (i := 611) (by decide +kernel), List.mem_of_getElem? (i := 612) (by decide +kernel)⟩
theorem lw_p14 : lw_okq (⟨"GoodsUnderWay", "mostHeld", "(IIII)I"⟩, 9) := ⟨⟨by decide +kernel, by decide +kernel⟩, List.mem_of_getElem? (i := 18) (by decide +kernel), List.mem_of_getElem? (i := 644) (by decide +kernel), List.mem_of_getElem? (i := 645) (by decide +kernel)⟩
theorem lw_p15 : lw_okq (⟨"GoodsUnderWay", "mostWidened", "(III)I"⟩, 9) := ⟨⟨by decide +kernel, by decide +kernel⟩, List.mem_of_getElem? (i := 18) (by decide +kernel), List.mem_of_getElem? (i := 661) (by decide +kernel), List.mem_of_getElem? (i := 662) (by decide +kernel)⟩
def lw_privs_1 : List (MethodName × Nat) := [(⟨"GoodsUnderWay", "found", "(I)I"⟩, 9), (⟨"GoodsUnderWay", "isAsked", "(II)Z"⟩, 9), (⟨"GoodsUnderWay", "mostIn", "(LGoodsUnderWay$World;II)I"⟩, 9), (⟨"GoodsUnderWay$Network", "addTick", "(I)V"⟩, 17), (⟨"GoodsUnderWay$Network", "node", "(II)I"⟩, 17), (⟨"GoodsUnderWay$Network", "addArc", "(IIII)V"⟩, 17), (⟨"GoodsUnderWay$Network", "putArc", "(III)V"⟩, 17), (⟨"GoodsUnderWay$Network", "findLevels", "()Z"⟩, 17), (⟨"GoodsUnderWay$Network", "fill", "()V"⟩, 17), (⟨"GoodsUnderWay$Network", "push", "(I)I"⟩, 17), (⟨"GoodsUnderWay$Network", "nextDown", "(I)I"⟩, 17), (⟨"GoodsUnderWay$Network", "leadsDown", "(II)Z"⟩, 17), (⟨"GoodsUnderWay", "ticksUntil", "(II)I"⟩, 9), (⟨"GoodsUnderWay", "sheetFault", "(I)I"⟩, 9), (⟨"GoodsUnderWay", "mostHeld", "(IIII)I"⟩, 9), (⟨"GoodsUnderWay", "mostWidened", "(III)I"⟩, 9)]
theorem lw_r1 : ∀ q ∈ lw_privs_1, lw_okq q := List.forall_mem_cons.mpr ⟨lw_p0, List.forall_mem_cons.mpr ⟨lw_p1, List.forall_mem_cons.mpr ⟨lw_p2, List.forall_mem_cons.mpr ⟨lw_p3, List.forall_mem_cons.mpr ⟨lw_p4, List.forall_mem_cons.mpr ⟨lw_p5, List.forall_mem_cons.mpr ⟨lw_p6, List.forall_mem_cons.mpr ⟨lw_p7, List.forall_mem_cons.mpr ⟨lw_p8, List.forall_mem_cons.mpr ⟨lw_p9, List.forall_mem_cons.mpr ⟨lw_p10, List.forall_mem_cons.mpr ⟨lw_p11, List.forall_mem_cons.mpr ⟨lw_p12, List.forall_mem_cons.mpr ⟨lw_p13, List.forall_mem_cons.mpr ⟨lw_p14, List.forall_mem_cons.mpr ⟨lw_p15, fun _ h => absurd h List.not_mem_nil⟩⟩⟩⟩⟩⟩⟩⟩⟩⟩⟩⟩⟩⟩⟩⟩
theorem lw_p16 : lw_okq (⟨"GoodsUnderWay$Stream", "findQuickest", "(II)Z"⟩, 7) := ⟨⟨by decide +kernel, by decide +kernel⟩, List.mem_of_getElem? (i := 215) (by decide +kernel), List.mem_of_getElem? (i := 710) (by decide +kernel), List.mem_of_getElem? (i := 711) (by decide +kernel)⟩
theorem lw_p17 : lw_okq (⟨"GoodsUnderWay$Stream", "improve", "(I)Z"⟩, 7) := ⟨⟨by decide +kernel, by decide +kernel⟩, List.mem_of_getElem? (i := 215) (by decide +kernel), List.mem_of_getElem? (i := 714) (by decide +kernel), List.mem_of_getElem? (i := 715) (by decide +kernel)⟩
theorem lw_p18 : lw_okq (⟨"GoodsUnderWay$Stream", "tail", "(I)I"⟩, 7) := ⟨⟨by decide +kernel, by decide +kernel⟩, List.mem_of_getElem? (i := 215) (by decide +kernel), List.mem_of_getElem? (i := 718) (by decide +kernel), List.mem_of_getElem? (i := 719) (by decide +kernel)⟩
theorem lw_p19 : lw_okq (⟨"GoodsUnderWay$Stream", "room", "(I)I"⟩, 7) := ⟨⟨by decide +kernel, by decide +kernel⟩, List.mem_of_getElem? (i := 215) (by decide +kernel), List.mem_of_getElem? (i := 722) (by decide +kernel), List.mem_of_getElem? (i := 723) (by decide +kernel)⟩
theorem lw_p20 : lw_okq (⟨"GoodsUnderWay$Stream", "head", "(I)I"⟩, 7) := ⟨⟨by decide +kernel, by decide +kernel⟩, List.mem_of_getElem? (i := 215) (by decide +kernel), List.mem_of_getElem? (i := 727) (by decide +kernel), List.mem_of_getElem? (i := 728) (by decide +kernel)⟩
theorem lw_p21 : lw_okq (⟨"GoodsUnderWay$Stream", "narrowest", "(II)I"⟩, 7) := ⟨⟨by decide +kernel, by decide +kernel⟩, List.mem_of_getElem? (i := 215) (by decide +kernel), List.mem_of_getElem? (i := 731) (by decide +kernel), List.mem_of_getElem? (i := 732) (by decide +kernel)⟩
theorem lw_p22 : lw_okq (⟨"GoodsUnderWay$Stream", "push", "(III)V"⟩, 7) := ⟨⟨by decide +kernel, by decide +kernel⟩, List.mem_of_getElem? (i := 215) (by decide +kernel), List.mem_of_getElem? (i := 737) (by decide +kernel), List.mem_of_getElem? (i := 738) (by decide +kernel)⟩
theorem lw_p23 : lw_okq (⟨"GoodsUnderWay$Tape", "readToken", "()V"⟩, 7) := ⟨⟨by decide +kernel, by decide +kernel⟩, List.mem_of_getElem? (i := 245) (by decide +kernel), List.mem_of_getElem? (i := 787) (by decide +kernel), List.mem_of_getElem? (i := 788) (by decide +kernel)⟩
theorem lw_p24 : lw_okq (⟨"GoodsUnderWay$Tape", "valueOfToken", "()I"⟩, 7) := ⟨⟨by decide +kernel, by decide +kernel⟩, List.mem_of_getElem? (i := 245) (by decide +kernel), List.mem_of_getElem? (i := 794) (by decide +kernel), List.mem_of_getElem? (i := 795) (by decide +kernel)⟩
theorem lw_p25 : lw_okq (⟨"GoodsUnderWay$Tape", "stationKind", "()I"⟩, 7) := ⟨⟨by decide +kernel, by decide +kernel⟩, List.mem_of_getElem? (i := 245) (by decide +kernel), List.mem_of_getElem? (i := 802) (by decide +kernel), List.mem_of_getElem? (i := 803) (by decide +kernel)⟩
theorem lw_p26 : lw_okq (⟨"GoodsUnderWay$Tape", "isWord", "(Ljava/lang/String;)Z"⟩, 7) := ⟨⟨by decide +kernel, by decide +kernel⟩, List.mem_of_getElem? (i := 245) (by decide +kernel), List.mem_of_getElem? (i := 807) (by decide +kernel), List.mem_of_getElem? (i := 808) (by decide +kernel)⟩
theorem lw_p27 : lw_okq (⟨"GoodsUnderWay$Tape", "lineKind", "()I"⟩, 7) := ⟨⟨by decide +kernel, by decide +kernel⟩, List.mem_of_getElem? (i := 245) (by decide +kernel), List.mem_of_getElem? (i := 862) (by decide +kernel), List.mem_of_getElem? (i := 863) (by decide +kernel)⟩
theorem lw_p28 : lw_okq (⟨"GoodsUnderWay$Tape", "readStation", "(LGoodsUnderWay$World;I)V"⟩, 7) := ⟨⟨by decide +kernel, by decide +kernel⟩, List.mem_of_getElem? (i := 245) (by decide +kernel), List.mem_of_getElem? (i := 872) (by decide +kernel), List.mem_of_getElem? (i := 873) (by decide +kernel)⟩
theorem lw_p29 : lw_okq (⟨"GoodsUnderWay$Tape", "takeOption", "(Ljava/lang/String;III)I"⟩, 7) := ⟨⟨by decide +kernel, by decide +kernel⟩, List.mem_of_getElem? (i := 245) (by decide +kernel), List.mem_of_getElem? (i := 877) (by decide +kernel), List.mem_of_getElem? (i := 878) (by decide +kernel)⟩
theorem lw_p30 : lw_okq (⟨"GoodsUnderWay$Tape", "takeWord", "(Ljava/lang/String;)Z"⟩, 7) := ⟨⟨by decide +kernel, by decide +kernel⟩, List.mem_of_getElem? (i := 245) (by decide +kernel), List.mem_of_getElem? (i := 881) (by decide +kernel), List.mem_of_getElem? (i := 882) (by decide +kernel)⟩
theorem lw_p31 : lw_okq (⟨"GoodsUnderWay$Tape", "takeNumber", "(II)I"⟩, 7) := ⟨⟨by decide +kernel, by decide +kernel⟩, List.mem_of_getElem? (i := 245) (by decide +kernel), List.mem_of_getElem? (i := 885) (by decide +kernel), List.mem_of_getElem? (i := 886) (by decide +kernel)⟩
def lw_privs_2 : List (MethodName × Nat) := [(⟨"GoodsUnderWay$Stream", "findQuickest", "(II)Z"⟩, 7), (⟨"GoodsUnderWay$Stream", "improve", "(I)Z"⟩, 7), (⟨"GoodsUnderWay$Stream", "tail", "(I)I"⟩, 7), (⟨"GoodsUnderWay$Stream", "room", "(I)I"⟩, 7), (⟨"GoodsUnderWay$Stream", "head", "(I)I"⟩, 7), (⟨"GoodsUnderWay$Stream", "narrowest", "(II)I"⟩, 7), (⟨"GoodsUnderWay$Stream", "push", "(III)V"⟩, 7), (⟨"GoodsUnderWay$Tape", "readToken", "()V"⟩, 7), (⟨"GoodsUnderWay$Tape", "valueOfToken", "()I"⟩, 7), (⟨"GoodsUnderWay$Tape", "stationKind", "()I"⟩, 7), (⟨"GoodsUnderWay$Tape", "isWord", "(Ljava/lang/String;)Z"⟩, 7), (⟨"GoodsUnderWay$Tape", "lineKind", "()I"⟩, 7), (⟨"GoodsUnderWay$Tape", "readStation", "(LGoodsUnderWay$World;I)V"⟩, 7), (⟨"GoodsUnderWay$Tape", "takeOption", "(Ljava/lang/String;III)I"⟩, 7), (⟨"GoodsUnderWay$Tape", "takeWord", "(Ljava/lang/String;)Z"⟩, 7), (⟨"GoodsUnderWay$Tape", "takeNumber", "(II)I"⟩, 7)]
theorem lw_r2 : ∀ q ∈ lw_privs_2, lw_okq q := List.forall_mem_cons.mpr ⟨lw_p16, List.forall_mem_cons.mpr ⟨lw_p17, List.forall_mem_cons.mpr ⟨lw_p18, List.forall_mem_cons.mpr ⟨lw_p19, List.forall_mem_cons.mpr ⟨lw_p20, List.forall_mem_cons.mpr ⟨lw_p21, List.forall_mem_cons.mpr ⟨lw_p22, List.forall_mem_cons.mpr ⟨lw_p23, List.forall_mem_cons.mpr ⟨lw_p24, List.forall_mem_cons.mpr ⟨lw_p25, List.forall_mem_cons.mpr ⟨lw_p26, List.forall_mem_cons.mpr ⟨lw_p27, List.forall_mem_cons.mpr ⟨lw_p28, List.forall_mem_cons.mpr ⟨lw_p29, List.forall_mem_cons.mpr ⟨lw_p30, List.forall_mem_cons.mpr ⟨lw_p31, fun _ h => absurd h List.not_mem_nil⟩⟩⟩⟩⟩⟩⟩⟩⟩⟩⟩⟩⟩⟩⟩⟩
theorem lw_p32 : lw_okq (⟨"GoodsUnderWay$Tape", "fail", "()V"⟩, 7) := ⟨⟨by decide +kernel, by decide +kernel⟩, List.mem_of_getElem? (i := 245) (by decide +kernel), List.mem_of_getElem? (i := 890) (by decide +kernel), List.mem_of_getElem? (i := 891) (by decide +kernel)⟩
theorem lw_p33 : lw_okq (⟨"GoodsUnderWay$Tape", "readLine", "(LGoodsUnderWay$World;I)V"⟩, 7) := ⟨⟨by decide +kernel, by decide +kernel⟩, List.mem_of_getElem? (i := 245) (by decide +kernel), List.mem_of_getElem? (i := 896) (by decide +kernel), List.mem_of_getElem? (i := 897) (by decide +kernel)⟩
theorem lw_p34 : lw_okq (⟨"GoodsUnderWay", "planFault", "(III)I"⟩, 9) := ⟨⟨by decide +kernel, by decide +kernel⟩, List.mem_of_getElem? (i := 18) (by decide +kernel), List.mem_of_getElem? (i := 956) (by decide +kernel), List.mem_of_getElem? (i := 957) (by decide +kernel)⟩
theorem lw_p35 : lw_okq (⟨"GoodsUnderWay", "follow", "(III)I"⟩, 9) := ⟨⟨by decide +kernel, by decide +kernel⟩, List.mem_of_getElem? (i := 18) (by decide +kernel), List.mem_of_getElem? (i := 960) (by decide +kernel), List.mem_of_getElem? (i := 961) (by decide +kernel)⟩
theorem lw_p36 : lw_okq (⟨"GoodsUnderWayModel", "finds", "(I)I"⟩, 40) := ⟨⟨by decide +kernel, by decide +kernel⟩, List.mem_of_getElem? (i := 994) (by decide +kernel), List.mem_of_getElem? (i := 1132) (by decide +kernel), List.mem_of_getElem? (i := 1133) (by decide +kernel)⟩
theorem lw_p37 : lw_okq (⟨"GoodsUnderWayModel", "addStation", "(III)V"⟩, 40) := ⟨⟨by decide +kernel, by decide +kernel⟩, List.mem_of_getElem? (i := 994) (by decide +kernel), List.mem_of_getElem? (i := 1137) (by decide +kernel), List.mem_of_getElem? (i := 1138) (by decide +kernel)⟩
theorem lw_p38 : lw_okq (⟨"GoodsUnderWayModel", "isStation", "(I)Z"⟩, 40) := ⟨⟨by decide +kernel, by decide +kernel⟩, List.mem_of_getElem? (i := 994) (by decide +kernel), List.mem_of_getElem? (i := 1146) (by decide +kernel), List.mem_of_getElem? (i := 1147) (by decide +kernel)⟩
theorem lw_p39 : lw_okq (⟨"GoodsUnderWayModel", "addLine", "(III)V"⟩, 40) := ⟨⟨by decide +kernel, by decide +kernel⟩, List.mem_of_getElem? (i := 994) (by decide +kernel), List.mem_of_getElem? (i := 1152) (by decide +kernel), List.mem_of_getElem? (i := 1153) (by decide +kernel)⟩
theorem lw_p40 : lw_okq (⟨"GoodsUnderWayModel", "holds", "(II)I"⟩, 40) := ⟨⟨by decide +kernel, by decide +kernel⟩, List.mem_of_getElem? (i := 994) (by decide +kernel), List.mem_of_getElem? (i := 1161) (by decide +kernel), List.mem_of_getElem? (i := 1162) (by decide +kernel)⟩
theorem lw_p41 : lw_okq (⟨"GoodsUnderWayModel", "comesTo", "(I)I"⟩, 40) := ⟨⟨by decide +kernel, by decide +kernel⟩, List.mem_of_getElem? (i := 994) (by decide +kernel), List.mem_of_getElem? (i := 1165) (by decide +kernel), List.mem_of_getElem? (i := 1166) (by decide +kernel)⟩
theorem lw_p42 : lw_okq (⟨"GoodsUnderWayModel", "at", "(II)I"⟩, 40) := ⟨⟨by decide +kernel, by decide +kernel⟩, List.mem_of_getElem? (i := 994) (by decide +kernel), List.mem_of_getElem? (i := 1169) (by decide +kernel), List.mem_of_getElem? (i := 1170) (by decide +kernel)⟩
theorem lw_p43 : lw_okq (⟨"GoodsUnderWayModel", "onWay", "(I)I"⟩, 40) := ⟨⟨by decide +kernel, by decide +kernel⟩, List.mem_of_getElem? (i := 994) (by decide +kernel), List.mem_of_getElem? (i := 1173) (by decide +kernel), List.mem_of_getElem? (i := 1174) (by decide +kernel)⟩
theorem lw_p44 : lw_okq (⟨"GoodsUnderWayModel", "isLine", "(I)Z"⟩, 40) := ⟨⟨by decide +kernel, by decide +kernel⟩, List.mem_of_getElem? (i := 994) (by decide +kernel), List.mem_of_getElem? (i := 1181) (by decide +kernel), List.mem_of_getElem? (i := 1182) (by decide +kernel)⟩
theorem lw_p45 : lw_okq (⟨"GoodsUnderWayModel", "room", "(II)I"⟩, 40) := ⟨⟨by decide +kernel, by decide +kernel⟩, List.mem_of_getElem? (i := 994) (by decide +kernel), List.mem_of_getElem? (i := 1186) (by decide +kernel), List.mem_of_getElem? (i := 1187) (by decide +kernel)⟩
theorem lw_p46 : lw_okq (⟨"GoodsUnderWayModel", "roomBy", "(III)I"⟩, 40) := ⟨⟨by decide +kernel, by decide +kernel⟩, List.mem_of_getElem? (i := 994) (by decide +kernel), List.mem_of_getElem? (i := 1190) (by decide +kernel), List.mem_of_getElem? (i := 1191) (by decide +kernel)⟩
theorem lw_p47 : lw_okq (⟨"GoodsUnderWayModel", "takes", "(I)I"⟩, 40) := ⟨⟨by decide +kernel, by decide +kernel⟩, List.mem_of_getElem? (i := 994) (by decide +kernel), List.mem_of_getElem? (i := 1194) (by decide +kernel), List.mem_of_getElem? (i := 1195) (by decide +kernel)⟩
def lw_privs_3 : List (MethodName × Nat) := [(⟨"GoodsUnderWay$Tape", "fail", "()V"⟩, 7), (⟨"GoodsUnderWay$Tape", "readLine", "(LGoodsUnderWay$World;I)V"⟩, 7), (⟨"GoodsUnderWay", "planFault", "(III)I"⟩, 9), (⟨"GoodsUnderWay", "follow", "(III)I"⟩, 9), (⟨"GoodsUnderWayModel", "finds", "(I)I"⟩, 40), (⟨"GoodsUnderWayModel", "addStation", "(III)V"⟩, 40), (⟨"GoodsUnderWayModel", "isStation", "(I)Z"⟩, 40), (⟨"GoodsUnderWayModel", "addLine", "(III)V"⟩, 40), (⟨"GoodsUnderWayModel", "holds", "(II)I"⟩, 40), (⟨"GoodsUnderWayModel", "comesTo", "(I)I"⟩, 40), (⟨"GoodsUnderWayModel", "at", "(II)I"⟩, 40), (⟨"GoodsUnderWayModel", "onWay", "(I)I"⟩, 40), (⟨"GoodsUnderWayModel", "isLine", "(I)Z"⟩, 40), (⟨"GoodsUnderWayModel", "room", "(II)I"⟩, 40), (⟨"GoodsUnderWayModel", "roomBy", "(III)I"⟩, 40), (⟨"GoodsUnderWayModel", "takes", "(I)I"⟩, 40)]
theorem lw_r3 : ∀ q ∈ lw_privs_3, lw_okq q := List.forall_mem_cons.mpr ⟨lw_p32, List.forall_mem_cons.mpr ⟨lw_p33, List.forall_mem_cons.mpr ⟨lw_p34, List.forall_mem_cons.mpr ⟨lw_p35, List.forall_mem_cons.mpr ⟨lw_p36, List.forall_mem_cons.mpr ⟨lw_p37, List.forall_mem_cons.mpr ⟨lw_p38, List.forall_mem_cons.mpr ⟨lw_p39, List.forall_mem_cons.mpr ⟨lw_p40, List.forall_mem_cons.mpr ⟨lw_p41, List.forall_mem_cons.mpr ⟨lw_p42, List.forall_mem_cons.mpr ⟨lw_p43, List.forall_mem_cons.mpr ⟨lw_p44, List.forall_mem_cons.mpr ⟨lw_p45, List.forall_mem_cons.mpr ⟨lw_p46, List.forall_mem_cons.mpr ⟨lw_p47, fun _ h => absurd h List.not_mem_nil⟩⟩⟩⟩⟩⟩⟩⟩⟩⟩⟩⟩⟩⟩⟩⟩
theorem lw_p48 : lw_okq (⟨"GoodsUnderWayModel", "mayBe", "(III)Z"⟩, 40) := ⟨⟨by decide +kernel, by decide +kernel⟩, List.mem_of_getElem? (i := 994) (by decide +kernel), List.mem_of_getElem? (i := 1207) (by decide +kernel), List.mem_of_getElem? (i := 1208) (by decide +kernel)⟩
theorem lw_p49 : lw_okq (⟨"GoodsUnderWayModel", "canSend", "(IJ)Z"⟩, 40) := ⟨⟨by decide +kernel, by decide +kernel⟩, List.mem_of_getElem? (i := 994) (by decide +kernel), List.mem_of_getElem? (i := 1226) (by decide +kernel), List.mem_of_getElem? (i := 1227) (by decide +kernel)⟩
theorem lw_p50 : lw_okq (⟨"GoodsUnderWayModel", "sends", "(II)V"⟩, 40) := ⟨⟨by decide +kernel, by decide +kernel⟩, List.mem_of_getElem? (i := 994) (by decide +kernel), List.mem_of_getElem? (i := 1231) (by decide +kernel), List.mem_of_getElem? (i := 1232) (by decide +kernel)⟩
theorem lw_p51 : lw_okq (⟨"GoodsUnderWayModel", "oneTick", "()V"⟩, 40) := ⟨⟨by decide +kernel, by decide +kernel⟩, List.mem_of_getElem? (i := 994) (by decide +kernel), List.mem_of_getElem? (i := 1240) (by decide +kernel), List.mem_of_getElem? (i := 1241) (by decide +kernel)⟩
theorem lw_p52 : lw_okq (⟨"GoodsUnderWayModel", "sumOf", "([II)I"⟩, 40) := ⟨⟨by decide +kernel, by decide +kernel⟩, List.mem_of_getElem? (i := 994) (by decide +kernel), List.mem_of_getElem? (i := 1248) (by decide +kernel), List.mem_of_getElem? (i := 1249) (by decide +kernel)⟩
theorem lw_p53 : lw_okq (⟨"GoodsUnderWayModel", "allOnWay", "()I"⟩, 40) := ⟨⟨by decide +kernel, by decide +kernel⟩, List.mem_of_getElem? (i := 994) (by decide +kernel), List.mem_of_getElem? (i := 1252) (by decide +kernel), List.mem_of_getElem? (i := 1253) (by decide +kernel)⟩
theorem lw_p54 : lw_okq (⟨"GoodsUnderWayModel", "roomOfAll", "()I"⟩, 40) := ⟨⟨by decide +kernel, by decide +kernel⟩, List.mem_of_getElem? (i := 994) (by decide +kernel), List.mem_of_getElem? (i := 1256) (by decide +kernel), List.mem_of_getElem? (i := 1257) (by decide +kernel)⟩
theorem lw_p55 : lw_okq (⟨"GoodsUnderWayModel", "losing", "()I"⟩, 40) := ⟨⟨by decide +kernel, by decide +kernel⟩, List.mem_of_getElem? (i := 994) (by decide +kernel), List.mem_of_getElem? (i := 1260) (by decide +kernel), List.mem_of_getElem? (i := 1261) (by decide +kernel)⟩
theorem lw_p56 : lw_okq (⟨"GoodsUnderWayModel", "openLines", "()I"⟩, 40) := ⟨⟨by decide +kernel, by decide +kernel⟩, List.mem_of_getElem? (i := 994) (by decide +kernel), List.mem_of_getElem? (i := 1264) (by decide +kernel), List.mem_of_getElem? (i := 1265) (by decide +kernel)⟩
theorem lw_p57 : lw_okq (⟨"GoodsUnderWayModel", "mostOf", "(II)I"⟩, 40) := ⟨⟨by decide +kernel, by decide +kernel⟩, List.mem_of_getElem? (i := 994) (by decide +kernel), List.mem_of_getElem? (i := 1276) (by decide +kernel), List.mem_of_getElem? (i := 1277) (by decide +kernel)⟩
theorem lw_p58 : lw_okq (⟨"GoodsUnderWayModel", "mostBy", "(IIIIII)I"⟩, 40) := ⟨⟨by decide +kernel, by decide +kernel⟩, List.mem_of_getElem? (i := 994) (by decide +kernel), List.mem_of_getElem? (i := 1280) (by decide +kernel), List.mem_of_getElem? (i := 1281) (by decide +kernel)⟩
theorem lw_p59 : lw_okq (⟨"GoodsUnderWayModel", "layOut", "(IIII)V"⟩, 40) := ⟨⟨by decide +kernel, by decide +kernel⟩, List.mem_of_getElem? (i := 994) (by decide +kernel), List.mem_of_getElem? (i := 1284) (by decide +kernel), List.mem_of_getElem? (i := 1285) (by decide +kernel)⟩
theorem lw_p60 : lw_okq (⟨"GoodsUnderWayModel", "brings", "(II)I"⟩, 40) := ⟨⟨by decide +kernel, by decide +kernel⟩, List.mem_of_getElem? (i := 994) (by decide +kernel), List.mem_of_getElem? (i := 1288) (by decide +kernel), List.mem_of_getElem? (i := 1289) (by decide +kernel)⟩
theorem lw_p61 : lw_okq (⟨"GoodsUnderWayModel", "searches", "(II)I"⟩, 40) := ⟨⟨by decide +kernel, by decide +kernel⟩, List.mem_of_getElem? (i := 994) (by decide +kernel), List.mem_of_getElem? (i := 1292) (by decide +kernel), List.mem_of_getElem? (i := 1293) (by decide +kernel)⟩
theorem lw_p62 : lw_okq (⟨"GoodsUnderWayModel", "meets", "(II)V"⟩, 40) := ⟨⟨by decide +kernel, by decide +kernel⟩, List.mem_of_getElem? (i := 994) (by decide +kernel), List.mem_of_getElem? (i := 1296) (by decide +kernel), List.mem_of_getElem? (i := 1297) (by decide +kernel)⟩
theorem lw_p63 : lw_okq (⟨"GoodsUnderWayModel", "spreads", "(III)I"⟩, 40) := ⟨⟨by decide +kernel, by decide +kernel⟩, List.mem_of_getElem? (i := 994) (by decide +kernel), List.mem_of_getElem? (i := 1300) (by decide +kernel), List.mem_of_getElem? (i := 1301) (by decide +kernel)⟩
def lw_privs_4 : List (MethodName × Nat) := [(⟨"GoodsUnderWayModel", "mayBe", "(III)Z"⟩, 40), (⟨"GoodsUnderWayModel", "canSend", "(IJ)Z"⟩, 40), (⟨"GoodsUnderWayModel", "sends", "(II)V"⟩, 40), (⟨"GoodsUnderWayModel", "oneTick", "()V"⟩, 40), (⟨"GoodsUnderWayModel", "sumOf", "([II)I"⟩, 40), (⟨"GoodsUnderWayModel", "allOnWay", "()I"⟩, 40), (⟨"GoodsUnderWayModel", "roomOfAll", "()I"⟩, 40), (⟨"GoodsUnderWayModel", "losing", "()I"⟩, 40), (⟨"GoodsUnderWayModel", "openLines", "()I"⟩, 40), (⟨"GoodsUnderWayModel", "mostOf", "(II)I"⟩, 40), (⟨"GoodsUnderWayModel", "mostBy", "(IIIIII)I"⟩, 40), (⟨"GoodsUnderWayModel", "layOut", "(IIII)V"⟩, 40), (⟨"GoodsUnderWayModel", "brings", "(II)I"⟩, 40), (⟨"GoodsUnderWayModel", "searches", "(II)I"⟩, 40), (⟨"GoodsUnderWayModel", "meets", "(II)V"⟩, 40), (⟨"GoodsUnderWayModel", "spreads", "(III)I"⟩, 40)]
theorem lw_r4 : ∀ q ∈ lw_privs_4, lw_okq q := List.forall_mem_cons.mpr ⟨lw_p48, List.forall_mem_cons.mpr ⟨lw_p49, List.forall_mem_cons.mpr ⟨lw_p50, List.forall_mem_cons.mpr ⟨lw_p51, List.forall_mem_cons.mpr ⟨lw_p52, List.forall_mem_cons.mpr ⟨lw_p53, List.forall_mem_cons.mpr ⟨lw_p54, List.forall_mem_cons.mpr ⟨lw_p55, List.forall_mem_cons.mpr ⟨lw_p56, List.forall_mem_cons.mpr ⟨lw_p57, List.forall_mem_cons.mpr ⟨lw_p58, List.forall_mem_cons.mpr ⟨lw_p59, List.forall_mem_cons.mpr ⟨lw_p60, List.forall_mem_cons.mpr ⟨lw_p61, List.forall_mem_cons.mpr ⟨lw_p62, List.forall_mem_cons.mpr ⟨lw_p63, fun _ h => absurd h List.not_mem_nil⟩⟩⟩⟩⟩⟩⟩⟩⟩⟩⟩⟩⟩⟩⟩⟩
theorem lw_p64 : lw_okq (⟨"GoodsUnderWayModel", "behind", "(I)I"⟩, 40) := ⟨⟨by decide +kernel, by decide +kernel⟩, List.mem_of_getElem? (i := 994) (by decide +kernel), List.mem_of_getElem? (i := 1304) (by decide +kernel), List.mem_of_getElem? (i := 1305) (by decide +kernel)⟩
theorem lw_p65 : lw_okq (⟨"GoodsUnderWayModel", "leftFor", "(II)I"⟩, 40) := ⟨⟨by decide +kernel, by decide +kernel⟩, List.mem_of_getElem? (i := 994) (by decide +kernel), List.mem_of_getElem? (i := 1308) (by decide +kernel), List.mem_of_getElem? (i := 1309) (by decide +kernel)⟩
theorem lw_p66 : lw_okq (⟨"GoodsUnderWayModel", "moves", "(III)V"⟩, 40) := ⟨⟨by decide +kernel, by decide +kernel⟩, List.mem_of_getElem? (i := 994) (by decide +kernel), List.mem_of_getElem? (i := 1312) (by decide +kernel), List.mem_of_getElem? (i := 1313) (by decide +kernel)⟩
theorem lw_p67 : lw_okq (⟨"GoodsUnderWayModel", "ownTill", "(II)I"⟩, 40) := ⟨⟨by decide +kernel, by decide +kernel⟩, List.mem_of_getElem? (i := 994) (by decide +kernel), List.mem_of_getElem? (i := 1316) (by decide +kernel), List.mem_of_getElem? (i := 1317) (by decide +kernel)⟩
theorem lw_p68 : lw_okq (⟨"GoodsUnderWayModel", "quickOf", "(II)I"⟩, 40) := ⟨⟨by decide +kernel, by decide +kernel⟩, List.mem_of_getElem? (i := 994) (by decide +kernel), List.mem_of_getElem? (i := 1324) (by decide +kernel), List.mem_of_getElem? (i := 1325) (by decide +kernel)⟩
theorem lw_p69 : lw_okq (⟨"GoodsUnderWayModel", "goods", "()I"⟩, 40) := ⟨⟨by decide +kernel, by decide +kernel⟩, List.mem_of_getElem? (i := 994) (by decide +kernel), List.mem_of_getElem? (i := 1333) (by decide +kernel), List.mem_of_getElem? (i := 1334) (by decide +kernel)⟩
theorem lw_p70 : lw_okq (⟨"GoodsUnderWayModel", "areTwo", "(II)Z"⟩, 40) := ⟨⟨by decide +kernel, by decide +kernel⟩, List.mem_of_getElem? (i := 994) (by decide +kernel), List.mem_of_getElem? (i := 1378) (by decide +kernel), List.mem_of_getElem? (i := 1379) (by decide +kernel)⟩
theorem lw_p71 : lw_okq (⟨"GoodsUnderWayModel", "findsGains", "(II)V"⟩, 40) := ⟨⟨by decide +kernel, by decide +kernel⟩, List.mem_of_getElem? (i := 994) (by decide +kernel), List.mem_of_getElem? (i := 1382) (by decide +kernel), List.mem_of_getElem? (i := 1383) (by decide +kernel)⟩
theorem lw_p72 : lw_okq (⟨"GoodsUnderWayModel", "measures", "(I)V"⟩, 40) := ⟨⟨by decide +kernel, by decide +kernel⟩, List.mem_of_getElem? (i := 994) (by decide +kernel), List.mem_of_getElem? (i := 1386) (by decide +kernel), List.mem_of_getElem? (i := 1387) (by decide +kernel)⟩
theorem lw_p73 : lw_okq (⟨"GoodsUnderWayModel", "nearer", "(IIII)Z"⟩, 40) := ⟨⟨by decide +kernel, by decide +kernel⟩, List.mem_of_getElem? (i := 994) (by decide +kernel), List.mem_of_getElem? (i := 1391) (by decide +kernel), List.mem_of_getElem? (i := 1392) (by decide +kernel)⟩
theorem lw_p74 : lw_okq (⟨"GoodsUnderWayModel", "stepBack", "(I)I"⟩, 40) := ⟨⟨by decide +kernel, by decide +kernel⟩, List.mem_of_getElem? (i := 994) (by decide +kernel), List.mem_of_getElem? (i := 1395) (by decide +kernel), List.mem_of_getElem? (i := 1396) (by decide +kernel)⟩
theorem lw_p75 : lw_okq (⟨"GoodsUnderWayModel", "steadyBehind", "(J)J"⟩, 40) := ⟨⟨by decide +kernel, by decide +kernel⟩, List.mem_of_getElem? (i := 994) (by decide +kernel), List.mem_of_getElem? (i := 1399) (by decide +kernel), List.mem_of_getElem? (i := 1400) (by decide +kernel)⟩
theorem lw_p76 : lw_okq (⟨"GoodsUnderWayModel", "next", "()V"⟩, 40) := ⟨⟨by decide +kernel, by decide +kernel⟩, List.mem_of_getElem? (i := 994) (by decide +kernel), List.mem_of_getElem? (i := 1432) (by decide +kernel), List.mem_of_getElem? (i := 1433) (by decide +kernel)⟩
theorem lw_p77 : lw_okq (⟨"GoodsUnderWayModel", "byteAt", "(I)I"⟩, 40) := ⟨⟨by decide +kernel, by decide +kernel⟩, List.mem_of_getElem? (i := 994) (by decide +kernel), List.mem_of_getElem? (i := 1436) (by decide +kernel), List.mem_of_getElem? (i := 1437) (by decide +kernel)⟩
theorem lw_p78 : lw_okq (⟨"GoodsUnderWayModel", "isWordFrom", "(I)Z"⟩, 40) := ⟨⟨by decide +kernel, by decide +kernel⟩, List.mem_of_getElem? (i := 994) (by decide +kernel), List.mem_of_getElem? (i := 1444) (by decide +kernel), List.mem_of_getElem? (i := 1445) (by decide +kernel)⟩
theorem lw_p79 : lw_okq (⟨"GoodsUnderWayModel", "readsItem", "()Z"⟩, 40) := ⟨⟨by decide +kernel, by decide +kernel⟩, List.mem_of_getElem? (i := 994) (by decide +kernel), List.mem_of_getElem? (i := 1448) (by decide +kernel), List.mem_of_getElem? (i := 1449) (by decide +kernel)⟩
def lw_privs_5 : List (MethodName × Nat) := [(⟨"GoodsUnderWayModel", "behind", "(I)I"⟩, 40), (⟨"GoodsUnderWayModel", "leftFor", "(II)I"⟩, 40), (⟨"GoodsUnderWayModel", "moves", "(III)V"⟩, 40), (⟨"GoodsUnderWayModel", "ownTill", "(II)I"⟩, 40), (⟨"GoodsUnderWayModel", "quickOf", "(II)I"⟩, 40), (⟨"GoodsUnderWayModel", "goods", "()I"⟩, 40), (⟨"GoodsUnderWayModel", "areTwo", "(II)Z"⟩, 40), (⟨"GoodsUnderWayModel", "findsGains", "(II)V"⟩, 40), (⟨"GoodsUnderWayModel", "measures", "(I)V"⟩, 40), (⟨"GoodsUnderWayModel", "nearer", "(IIII)Z"⟩, 40), (⟨"GoodsUnderWayModel", "stepBack", "(I)I"⟩, 40), (⟨"GoodsUnderWayModel", "steadyBehind", "(J)J"⟩, 40), (⟨"GoodsUnderWayModel", "next", "()V"⟩, 40), (⟨"GoodsUnderWayModel", "byteAt", "(I)I"⟩, 40), (⟨"GoodsUnderWayModel", "isWordFrom", "(I)Z"⟩, 40), (⟨"GoodsUnderWayModel", "readsItem", "()Z"⟩, 40)]
theorem lw_r5 : ∀ q ∈ lw_privs_5, lw_okq q := List.forall_mem_cons.mpr ⟨lw_p64, List.forall_mem_cons.mpr ⟨lw_p65, List.forall_mem_cons.mpr ⟨lw_p66, List.forall_mem_cons.mpr ⟨lw_p67, List.forall_mem_cons.mpr ⟨lw_p68, List.forall_mem_cons.mpr ⟨lw_p69, List.forall_mem_cons.mpr ⟨lw_p70, List.forall_mem_cons.mpr ⟨lw_p71, List.forall_mem_cons.mpr ⟨lw_p72, List.forall_mem_cons.mpr ⟨lw_p73, List.forall_mem_cons.mpr ⟨lw_p74, List.forall_mem_cons.mpr ⟨lw_p75, List.forall_mem_cons.mpr ⟨lw_p76, List.forall_mem_cons.mpr ⟨lw_p77, List.forall_mem_cons.mpr ⟨lw_p78, List.forall_mem_cons.mpr ⟨lw_p79, fun _ h => absurd h List.not_mem_nil⟩⟩⟩⟩⟩⟩⟩⟩⟩⟩⟩⟩⟩⟩⟩⟩
theorem lw_p80 : lw_okq (⟨"GoodsUnderWayModel", "readsStation", "(I)Z"⟩, 40) := ⟨⟨by decide +kernel, by decide +kernel⟩, List.mem_of_getElem? (i := 994) (by decide +kernel), List.mem_of_getElem? (i := 1452) (by decide +kernel), List.mem_of_getElem? (i := 1453) (by decide +kernel)⟩
theorem lw_p81 : lw_okq (⟨"GoodsUnderWayModel", "perhaps", "(IIII)Z"⟩, 40) := ⟨⟨by decide +kernel, by decide +kernel⟩, List.mem_of_getElem? (i := 994) (by decide +kernel), List.mem_of_getElem? (i := 1456) (by decide +kernel), List.mem_of_getElem? (i := 1457) (by decide +kernel)⟩
theorem lw_p82 : lw_okq (⟨"GoodsUnderWayModel", "isWord", "(I)Z"⟩, 40) := ⟨⟨by decide +kernel, by decide +kernel⟩, List.mem_of_getElem? (i := 994) (by decide +kernel), List.mem_of_getElem? (i := 1460) (by decide +kernel), List.mem_of_getElem? (i := 1461) (by decide +kernel)⟩
theorem lw_p83 : lw_okq (⟨"GoodsUnderWayModel", "takesNumber", "(II)Z"⟩, 40) := ⟨⟨by decide +kernel, by decide +kernel⟩, List.mem_of_getElem? (i := 994) (by decide +kernel), List.mem_of_getElem? (i := 1464) (by decide +kernel), List.mem_of_getElem? (i := 1465) (by decide +kernel)⟩
theorem lw_p84 : lw_okq (⟨"GoodsUnderWayModel", "readsLine", "(I)Z"⟩, 40) := ⟨⟨by decide +kernel, by decide +kernel⟩, List.mem_of_getElem? (i := 994) (by decide +kernel), List.mem_of_getElem? (i := 1468) (by decide +kernel), List.mem_of_getElem? (i := 1469) (by decide +kernel)⟩
theorem lw_p85 : lw_okq (⟨"GoodsUnderWayModel", "plans", "(IIIZ)I"⟩, 40) := ⟨⟨by decide +kernel, by decide +kernel⟩, List.mem_of_getElem? (i := 994) (by decide +kernel), List.mem_of_getElem? (i := 1500) (by decide +kernel), List.mem_of_getElem? (i := 1501) (by decide +kernel)⟩
theorem lw_p86 : lw_okq (⟨"GoodsUnderWayModel", "keeps", "([I)V"⟩, 40) := ⟨⟨by decide +kernel, by decide +kernel⟩, List.mem_of_getElem? (i := 994) (by decide +kernel), List.mem_of_getElem? (i := 1504) (by decide +kernel), List.mem_of_getElem? (i := 1505) (by decide +kernel)⟩
theorem lw_p87 : lw_okq (⟨"GoodsUnderWayModel", "puts", "([II[I)I"⟩, 40) := ⟨⟨by decide +kernel, by decide +kernel⟩, List.mem_of_getElem? (i := 994) (by decide +kernel), List.mem_of_getElem? (i := 1508) (by decide +kernel), List.mem_of_getElem? (i := 1509) (by decide +kernel)⟩
theorem lw_p88 : lw_okq (⟨"GoodsUnderWayModel", "goesBy", "(II)I"⟩, 40) := ⟨⟨by decide +kernel, by decide +kernel⟩, List.mem_of_getElem? (i := 994) (by decide +kernel), List.mem_of_getElem? (i := 1512) (by decide +kernel), List.mem_of_getElem? (i := 1513) (by decide +kernel)⟩
theorem lw_p89 : lw_okq (⟨"GoodsUnderWayModel", "sendsAll", "(II)I"⟩, 40) := ⟨⟨by decide +kernel, by decide +kernel⟩, List.mem_of_getElem? (i := 994) (by decide +kernel), List.mem_of_getElem? (i := 1516) (by decide +kernel), List.mem_of_getElem? (i := 1517) (by decide +kernel)⟩
theorem lw_p90 : lw_okq (⟨"GoodsUnderWayModel", "comesBack", "([I)V"⟩, 40) := ⟨⟨by decide +kernel, by decide +kernel⟩, List.mem_of_getElem? (i := 994) (by decide +kernel), List.mem_of_getElem? (i := 1520) (by decide +kernel), List.mem_of_getElem? (i := 1521) (by decide +kernel)⟩
theorem lw_p91 : lw_okq (⟨"GoodsUnderWayModel", "gets", "([II[I)I"⟩, 40) := ⟨⟨by decide +kernel, by decide +kernel⟩, List.mem_of_getElem? (i := 994) (by decide +kernel), List.mem_of_getElem? (i := 1524) (by decide +kernel), List.mem_of_getElem? (i := 1525) (by decide +kernel)⟩
def lw_privs_6 : List (MethodName × Nat) := [(⟨"GoodsUnderWayModel", "readsStation", "(I)Z"⟩, 40), (⟨"GoodsUnderWayModel", "perhaps", "(IIII)Z"⟩, 40), (⟨"GoodsUnderWayModel", "isWord", "(I)Z"⟩, 40), (⟨"GoodsUnderWayModel", "takesNumber", "(II)Z"⟩, 40), (⟨"GoodsUnderWayModel", "readsLine", "(I)Z"⟩, 40), (⟨"GoodsUnderWayModel", "plans", "(IIIZ)I"⟩, 40), (⟨"GoodsUnderWayModel", "keeps", "([I)V"⟩, 40), (⟨"GoodsUnderWayModel", "puts", "([II[I)I"⟩, 40), (⟨"GoodsUnderWayModel", "goesBy", "(II)I"⟩, 40), (⟨"GoodsUnderWayModel", "sendsAll", "(II)I"⟩, 40), (⟨"GoodsUnderWayModel", "comesBack", "([I)V"⟩, 40), (⟨"GoodsUnderWayModel", "gets", "([II[I)I"⟩, 40)]
theorem lw_r6 : ∀ q ∈ lw_privs_6, lw_okq q := List.forall_mem_cons.mpr ⟨lw_p80, List.forall_mem_cons.mpr ⟨lw_p81, List.forall_mem_cons.mpr ⟨lw_p82, List.forall_mem_cons.mpr ⟨lw_p83, List.forall_mem_cons.mpr ⟨lw_p84, List.forall_mem_cons.mpr ⟨lw_p85, List.forall_mem_cons.mpr ⟨lw_p86, List.forall_mem_cons.mpr ⟨lw_p87, List.forall_mem_cons.mpr ⟨lw_p88, List.forall_mem_cons.mpr ⟨lw_p89, List.forall_mem_cons.mpr ⟨lw_p90, List.forall_mem_cons.mpr ⟨lw_p91, fun _ h => absurd h List.not_mem_nil⟩⟩⟩⟩⟩⟩⟩⟩⟩⟩⟩⟩
def lw_privs : List (MethodName × Nat) := lw_privs_1 ++ (lw_privs_2 ++ (lw_privs_3 ++ (lw_privs_4 ++ (lw_privs_5 ++ (lw_privs_6)))))
def lw_tbl : List Cond := k2_sels lw_privs ++ tables_1
theorem lw_privs_ok : ∀ q ∈ lw_privs, lw_okq q := by
  show ∀ q ∈ lw_privs_1 ++ (lw_privs_2 ++ (lw_privs_3 ++ (lw_privs_4 ++ (lw_privs_5 ++ (lw_privs_6))))), lw_okq q
  exact List.forall_mem_append.mpr ⟨lw_r1, List.forall_mem_append.mpr ⟨lw_r2, List.forall_mem_append.mpr ⟨lw_r3, List.forall_mem_append.mpr ⟨lw_r4, List.forall_mem_append.mpr ⟨lw_r5, lw_r6⟩⟩⟩⟩⟩
/-! ===== BEGIN words of one list among another's, by their places ===== -/
theorem goodIn_r {big : List Cond} (ws : List Cond) (ps : List Nat) (hp : ws = ps.filterMap (fun i => big[i]?)) (h : ws.all goodWord = true) : GoodIn big ws := by
  intro w hw
  have h1 := List.all_eq_true.mp h w hw
  rw [hp] at hw
  obtain ⟨i, -, hi⟩ := List.mem_filterMap.mp hw
  have hm : w ∈ big := by first | exact List.mem_of_getElem? hi | exact List.getElem?_mem hi
  exact ⟨hm, good_of_word h1⟩
theorem goodIn_app {big a b : List Cond} (ha : GoodIn big a) (hb : GoodIn big b) : GoodIn big (a ++ b) := fun w h => (List.mem_append.mp h).elim (ha w) (hb w)
theorem goodIn_ca {big a b : List Cond} {c : Cond} (ha : GoodIn big (c :: a)) (hb : GoodIn big b) : GoodIn big (c :: (a ++ b)) := fun w h => (List.mem_cons.mp h).elim (fun e => ha w (List.mem_cons.mpr (Or.inl e))) (fun h => (List.mem_append.mp h).elim (fun h => ha w (List.mem_cons.mpr (Or.inr h))) (hb w))
theorem goodIn_sub {big ws : List Cond} (hm : ∀ w ∈ ws, w ∈ big) (h : ws.all goodWord = true) : GoodIn big ws := fun w hw => ⟨hm w hw, good_of_word (List.all_eq_true.mp h w hw)⟩
/-! ===== END ===== -/

/-! ===== BEGIN printed: names, fields, word lists, decode rows ===== -/
def RX0 : String := "GoodsUnderWay$Line"
def TX0 : u_T := fun k => match k with
  | 0 => ("GoodsUnderWay$Line", "kind", "I", false)
  | 1 => ("GoodsUnderWay$Line", "from", "I", false)
  | 2 => ("GoodsUnderWay$Line", "to", "I", false)
  | 3 => ("GoodsUnderWay$Line", "width", "I", false)
  | 4 => ("GoodsUnderWay$Line", "length", "I", false)
  | 5 => ("GoodsUnderWay$Line", "tide", "I", false)
  | 6 => ("GoodsUnderWay$Line", "later", "I", false)
  | 7 => ("GoodsUnderWay$Line", "shift", "I", false)
  | 8 => ("GoodsUnderWay$Line", "sent", "I", false)
  | _ => ("GoodsUnderWay$Line", "way", "[I", true)
def tyX0 : Nat → FieldType := fun k => match k with
  | 0 => .int
  | 1 => .int
  | 2 => .int
  | 3 => .int
  | 4 => .int
  | 5 => .int
  | 6 => .int
  | 7 => .int
  | 8 => .int
  | _ => .array .int
abbrev wsX00 : List Cond := u_ws RX0 TX0 10
theorem nmX0 : ∀ a, a < 10 → ∀ b, b < 10 → a ≠ b → (TX0 a).2.1 ≠ (TX0 b).2.1 := by decide +kernel
theorem tyX0_ok : ∀ k, k < 10 → parseFieldDescriptor (TX0 k).2.2.1 = some (tyX0 k) := by decide +kernel
abbrev cX0_init : ByteArray := prog_2_method_1_code
def yX0_init : MethodName := ⟨RX0, "<init>", "()V"⟩
abbrev cX0_become : ByteArray := prog_2_method_2_code
def yX0_become : MethodName := ⟨RX0, "become", "(LGoodsUnderWay$Line;)V"⟩
abbrev cX0_room : ByteArray := prog_2_method_3_code
def yX0_room : MethodName := ⟨RX0, "room", "(I)I"⟩
abbrev cX0_takes : ByteArray := prog_2_method_4_code
def yX0_takes : MethodName := ⟨RX0, "takes", "()I"⟩
abbrev cX0_underWay : ByteArray := prog_2_method_5_code
def yX0_underWay : MethodName := ⟨RX0, "underWay", "()I"⟩
abbrev cX0_setting : ByteArray := prog_2_method_6_code
def yX0_setting : MethodName := ⟨RX0, "setting", "(I)I"⟩
abbrev cX0_least : ByteArray := prog_2_method_7_code
def yX0_least : MethodName := ⟨RX0, "least", "(I)I"⟩
abbrev cX0_greatest : ByteArray := prog_2_method_8_code
def yX0_greatest : MethodName := ⟨RX0, "greatest", "(I)I"⟩
abbrev cX0_replace : ByteArray := prog_2_method_9_code
def yX0_replace : MethodName := ⟨RX0, "replace", "(II)I"⟩
def RX1 : String := "GoodsUnderWay$Network"
def TX1 : u_T := fun k => match k with
  | 0 => ("GoodsUnderWay$Network", "world", "LGoodsUnderWay$World;", false)
  | 1 => ("GoodsUnderWay$Network", "goal", "I", false)
  | 2 => ("GoodsUnderWay$Network", "heldLine", "I", false)
  | 3 => ("GoodsUnderWay$Network", "heldTo", "I", false)
  | 4 => ("GoodsUnderWay$Network", "ticks", "I", false)
  | 5 => ("GoodsUnderWay$Network", "flow", "I", false)
  | 6 => ("GoodsUnderWay$Network", "arcs", "I", false)
  | 7 => ("GoodsUnderWay$Network", "first", "[I", true)
  | 8 => ("GoodsUnderWay$Network", "next", "[I", true)
  | 9 => ("GoodsUnderWay$Network", "into", "[I", true)
  | 10 => ("GoodsUnderWay$Network", "left", "[I", true)
  | 11 => ("GoodsUnderWay$Network", "owner", "[I", true)
  | 12 => ("GoodsUnderWay$Network", "level", "[I", true)
  | 13 => ("GoodsUnderWay$Network", "turn", "[I", true)
  | 14 => ("GoodsUnderWay$Network", "path", "[I", true)
  | 15 => ("GoodsUnderWay$Network", "queue", "[I", true)
  | _ => ("GoodsUnderWay$Network", "near", "[I", true)
def tyX1 : Nat → FieldType := fun k => match k with
  | 0 => .object "GoodsUnderWay$World"
  | 1 => .int
  | 2 => .int
  | 3 => .int
  | 4 => .int
  | 5 => .int
  | 6 => .int
  | 7 => .array .int
  | 8 => .array .int
  | 9 => .array .int
  | 10 => .array .int
  | 11 => .array .int
  | 12 => .array .int
  | 13 => .array .int
  | 14 => .array .int
  | 15 => .array .int
  | _ => .array .int
abbrev wsX10 : List Cond := u_ws RX1 TX1 17
theorem nmX1 : ∀ a, a < 17 → ∀ b, b < 17 → a ≠ b → (TX1 a).2.1 ≠ (TX1 b).2.1 := by decide +kernel
theorem tyX1_ok : ∀ k, k < 17 → parseFieldDescriptor (TX1 k).2.2.1 = some (tyX1 k) := by decide +kernel
abbrev cX1_init : ByteArray := prog_3_method_1_code
def yX1_init : MethodName := ⟨RX1, "<init>", "()V"⟩
abbrev cX1_open : ByteArray := prog_3_method_2_code
def yX1_open : MethodName := ⟨RX1, "open", "(LGoodsUnderWay$World;I)V"⟩
abbrev cX1_hold : ByteArray := prog_3_method_3_code
def yX1_hold : MethodName := ⟨RX1, "hold", "(II)V"⟩
abbrev cX1_flowBehind : ByteArray := prog_3_method_4_code
def yX1_flowBehind : MethodName := ⟨RX1, "flowBehind", "(I)I"⟩
abbrev cX1_node : ByteArray := prog_3_method_5_code
def yX1_node : MethodName := ⟨RX1, "node", "(II)I"⟩
abbrev cX1_addTick : ByteArray := prog_3_method_6_code
def yX1_addTick : MethodName := ⟨RX1, "addTick", "(I)V"⟩
abbrev cX1_addArc : ByteArray := prog_3_method_7_code
def yX1_addArc : MethodName := ⟨RX1, "addArc", "(IIII)V"⟩
abbrev cX1_putArc : ByteArray := prog_3_method_8_code
def yX1_putArc : MethodName := ⟨RX1, "putArc", "(III)V"⟩
abbrev cX1_findLevels : ByteArray := prog_3_method_9_code
def yX1_findLevels : MethodName := ⟨RX1, "findLevels", "()Z"⟩
abbrev cX1_fill : ByteArray := prog_3_method_10_code
def yX1_fill : MethodName := ⟨RX1, "fill", "()V"⟩
abbrev cX1_nextDown : ByteArray := prog_3_method_11_code
def yX1_nextDown : MethodName := ⟨RX1, "nextDown", "(I)I"⟩
abbrev cX1_leadsDown : ByteArray := prog_3_method_12_code
def yX1_leadsDown : MethodName := ⟨RX1, "leadsDown", "(II)Z"⟩
abbrev cX1_push : ByteArray := prog_3_method_13_code
def yX1_push : MethodName := ⟨RX1, "push", "(I)I"⟩
abbrev cX1_searchNear : ByteArray := prog_3_method_14_code
def yX1_searchNear : MethodName := ⟨RX1, "searchNear", "()V"⟩
abbrev cX1_ticksNear : ByteArray := prog_3_method_15_code
def yX1_ticksNear : MethodName := ⟨RX1, "ticksNear", "(I)I"⟩
abbrev cX1_stationsNear : ByteArray := prog_3_method_16_code
def yX1_stationsNear : MethodName := ⟨RX1, "stationsNear", "()I"⟩
abbrev cX1_canStillSendFrom : ByteArray := prog_3_method_17_code
def yX1_canStillSendFrom : MethodName := ⟨RX1, "canStillSendFrom", "(I)Z"⟩
abbrev cX1_busyLines : ByteArray := prog_3_method_18_code
def yX1_busyLines : MethodName := ⟨RX1, "busyLines", "()I"⟩
abbrev cX1_peak : ByteArray := prog_3_method_19_code
def yX1_peak : MethodName := ⟨RX1, "peak", "(I)I"⟩
def RX2 : String := "GoodsUnderWay$Sheet"
def TX2 : u_T := fun k => match k with
  | 0 => ("GoodsUnderWay$Sheet", "row", "[J", true)
  | 1 => ("GoodsUnderWay$Sheet", "bits", "I", false)
  | _ => ("GoodsUnderWay$Sheet", "size", "I", false)
def tyX2 : Nat → FieldType := fun k => match k with
  | 0 => .array .long
  | 1 => .int
  | _ => .int
abbrev wsX20 : List Cond := u_ws RX2 TX2 3
theorem nmX2 : ∀ a, a < 3 → ∀ b, b < 3 → a ≠ b → (TX2 a).2.1 ≠ (TX2 b).2.1 := by decide +kernel
theorem tyX2_ok : ∀ k, k < 3 → parseFieldDescriptor (TX2 k).2.2.1 = some (tyX2 k) := by decide +kernel
abbrev cX2_init : ByteArray := prog_4_method_1_code
def yX2_init : MethodName := ⟨RX2, "<init>", "()V"⟩
abbrev cX2_hasBits : ByteArray := prog_4_method_2_code
def yX2_hasBits : MethodName := ⟨RX2, "hasBits", "(I)Z"⟩
abbrev cX2_renew : ByteArray := prog_4_method_3_code
def yX2_renew : MethodName := ⟨RX2, "renew", "(II)V"⟩
abbrev cX2_put : ByteArray := prog_4_method_4_code
def yX2_put : MethodName := ⟨RX2, "put", "(IJ)V"⟩
abbrev cX2_hasPart : ByteArray := prog_4_method_5_code
def yX2_hasPart : MethodName := ⟨RX2, "hasPart", "(II)Z"⟩
abbrev cX2_entry : ByteArray := prog_4_method_6_code
def yX2_entry : MethodName := ⟨RX2, "entry", "(II)I"⟩
def RX3 : String := "GoodsUnderWay$Station"
def TX3 : u_T := fun k => match k with
  | 0 => ("GoodsUnderWay$Station", "kind", "I", false)
  | 1 => ("GoodsUnderWay$Station", "stock", "I", false)
  | _ => ("GoodsUnderWay$Station", "store", "I", false)
def tyX3 : Nat → FieldType := fun k => match k with
  | 0 => .int
  | 1 => .int
  | _ => .int
abbrev wsX30 : List Cond := u_ws RX3 TX3 3
theorem nmX3 : ∀ a, a < 3 → ∀ b, b < 3 → a ≠ b → (TX3 a).2.1 ≠ (TX3 b).2.1 := by decide +kernel
theorem tyX3_ok : ∀ k, k < 3 → parseFieldDescriptor (TX3 k).2.2.1 = some (tyX3 k) := by decide +kernel
abbrev cX3_init : ByteArray := prog_5_method_1_code
def yX3_init : MethodName := ⟨RX3, "<init>", "()V"⟩
abbrev cX3_become : ByteArray := prog_5_method_2_code
def yX3_become : MethodName := ⟨RX3, "become", "(LGoodsUnderWay$Station;)V"⟩
abbrev cX3_holds : ByteArray := prog_5_method_3_code
def yX3_holds : MethodName := ⟨RX3, "holds", "(I)I"⟩
abbrev cX3_greatest : ByteArray := prog_5_method_4_code
def yX3_greatest : MethodName := ⟨RX3, "greatest", "(I)I"⟩
abbrev cX3_replace : ByteArray := prog_5_method_5_code
def yX3_replace : MethodName := ⟨RX3, "replace", "(II)I"⟩
def RX4 : String := "GoodsUnderWay$Stream"
def TX4 : u_T := fun k => match k with
  | 0 => ("GoodsUnderWay$Stream", "world", "LGoodsUnderWay$World;", false)
  | 1 => ("GoodsUnderWay$Stream", "gains", "[I", true)
  | 2 => ("GoodsUnderWay$Stream", "rate", "I", false)
  | 3 => ("GoodsUnderWay$Stream", "left", "[I", true)
  | 4 => ("GoodsUnderWay$Stream", "used", "[I", true)
  | 5 => ("GoodsUnderWay$Stream", "ticks", "[I", true)
  | _ => ("GoodsUnderWay$Stream", "by", "[I", true)
def tyX4 : Nat → FieldType := fun k => match k with
  | 0 => .object "GoodsUnderWay$World"
  | 1 => .array .int
  | 2 => .int
  | 3 => .array .int
  | 4 => .array .int
  | 5 => .array .int
  | _ => .array .int
abbrev wsX40 : List Cond := u_ws RX4 TX4 7
theorem nmX4 : ∀ a, a < 7 → ∀ b, b < 7 → a ≠ b → (TX4 a).2.1 ≠ (TX4 b).2.1 := by decide +kernel
theorem tyX4_ok : ∀ k, k < 7 → parseFieldDescriptor (TX4 k).2.2.1 = some (tyX4 k) := by decide +kernel
abbrev cX4_init : ByteArray := prog_6_method_1_code
def yX4_init : MethodName := ⟨RX4, "<init>", "()V"⟩
abbrev cX4_solve : ByteArray := prog_6_method_2_code
def yX4_solve : MethodName := ⟨RX4, "solve", "(LGoodsUnderWay$World;II)V"⟩
abbrev cX4_findQuickest : ByteArray := prog_6_method_3_code
def yX4_findQuickest : MethodName := ⟨RX4, "findQuickest", "(II)Z"⟩
abbrev cX4_improve : ByteArray := prog_6_method_4_code
def yX4_improve : MethodName := ⟨RX4, "improve", "(I)Z"⟩
abbrev cX4_tail : ByteArray := prog_6_method_5_code
def yX4_tail : MethodName := ⟨RX4, "tail", "(I)I"⟩
abbrev cX4_head : ByteArray := prog_6_method_6_code
def yX4_head : MethodName := ⟨RX4, "head", "(I)I"⟩
abbrev cX4_room : ByteArray := prog_6_method_7_code
def yX4_room : MethodName := ⟨RX4, "room", "(I)I"⟩
abbrev cX4_narrowest : ByteArray := prog_6_method_8_code
def yX4_narrowest : MethodName := ⟨RX4, "narrowest", "(II)I"⟩
abbrev cX4_push : ByteArray := prog_6_method_9_code
def yX4_push : MethodName := ⟨RX4, "push", "(III)V"⟩
abbrev cX4_behind : ByteArray := prog_6_method_10_code
def yX4_behind : MethodName := ⟨RX4, "behind", "(J)J"⟩
abbrev cX4_ticksUntil : ByteArray := prog_6_method_11_code
def yX4_ticksUntil : MethodName := ⟨RX4, "ticksUntil", "(I)J"⟩
def RX5 : String := "GoodsUnderWay$Tape"
def TX5 : u_T := fun k => match k with
  | 0 => ("GoodsUnderWay$Tape", "bytes", "[I", true)
  | 1 => ("GoodsUnderWay$Tape", "size", "I", false)
  | 2 => ("GoodsUnderWay$Tape", "fault", "I", false)
  | 3 => ("GoodsUnderWay$Tape", "sort", "I", false)
  | 4 => ("GoodsUnderWay$Tape", "place", "I", false)
  | 5 => ("GoodsUnderWay$Tape", "behind", "I", false)
  | _ => ("GoodsUnderWay$Tape", "value", "I", false)
def tyX5 : Nat → FieldType := fun k => match k with
  | 0 => .array .int
  | 1 => .int
  | 2 => .int
  | 3 => .int
  | 4 => .int
  | 5 => .int
  | _ => .int
abbrev wsX50 : List Cond := u_ws RX5 TX5 7
theorem nmX5 : ∀ a, a < 7 → ∀ b, b < 7 → a ≠ b → (TX5 a).2.1 ≠ (TX5 b).2.1 := by decide +kernel
theorem tyX5_ok : ∀ k, k < 7 → parseFieldDescriptor (TX5 k).2.2.1 = some (tyX5 k) := by decide +kernel
abbrev cX5_init : ByteArray := prog_7_method_1_code
def yX5_init : MethodName := ⟨RX5, "<init>", "()V"⟩
abbrev cX5_add : ByteArray := prog_7_method_2_code
def yX5_add : MethodName := ⟨RX5, "add", "(I)V"⟩
abbrev cX5_start : ByteArray := prog_7_method_3_code
def yX5_start : MethodName := ⟨RX5, "start", "()V"⟩
abbrev cX5_takeSign : ByteArray := prog_7_method_4_code
def yX5_takeSign : MethodName := ⟨RX5, "takeSign", "()Z"⟩
abbrev cX5_fail : ByteArray := prog_7_method_5_code
def yX5_fail : MethodName := ⟨RX5, "fail", "()V"⟩
abbrev cX5_readToken : ByteArray := prog_7_method_6_code
def yX5_readToken : MethodName := ⟨RX5, "readToken", "()V"⟩
abbrev cX5_sortOf : ByteArray := prog_7_method_7_code
def yX5_sortOf : MethodName := ⟨RX5, "sortOf", "(I)I"⟩
abbrev cX5_valueOfToken : ByteArray := prog_7_method_8_code
def yX5_valueOfToken : MethodName := ⟨RX5, "valueOfToken", "()I"⟩
abbrev cX5_isWord : ByteArray := prog_7_method_9_code
def yX5_isWord : MethodName := ⟨RX5, "isWord", "(Ljava/lang/String;)Z"⟩
abbrev cX5_takeWord : ByteArray := prog_7_method_10_code
def yX5_takeWord : MethodName := ⟨RX5, "takeWord", "(Ljava/lang/String;)Z"⟩
abbrev cX5_takeNumber : ByteArray := prog_7_method_11_code
def yX5_takeNumber : MethodName := ⟨RX5, "takeNumber", "(II)I"⟩
abbrev cX5_takeOption : ByteArray := prog_7_method_12_code
def yX5_takeOption : MethodName := ⟨RX5, "takeOption", "(Ljava/lang/String;III)I"⟩
abbrev cX5_stationKind : ByteArray := prog_7_method_13_code
def yX5_stationKind : MethodName := ⟨RX5, "stationKind", "()I"⟩
abbrev cX5_lineKind : ByteArray := prog_7_method_14_code
def yX5_lineKind : MethodName := ⟨RX5, "lineKind", "()I"⟩
abbrev cX5_readItem : ByteArray := prog_7_method_15_code
def yX5_readItem : MethodName := ⟨RX5, "readItem", "(LGoodsUnderWay$World;)V"⟩
abbrev cX5_readStation : ByteArray := prog_7_method_16_code
def yX5_readStation : MethodName := ⟨RX5, "readStation", "(LGoodsUnderWay$World;I)V"⟩
abbrev cX5_readLine : ByteArray := prog_7_method_17_code
def yX5_readLine : MethodName := ⟨RX5, "readLine", "(LGoodsUnderWay$World;I)V"⟩
def RX6 : String := "GoodsUnderWay$World"
def TX6 : u_T := fun k => match k with
  | 0 => ("GoodsUnderWay$World", "tick", "I", false)
  | 1 => ("GoodsUnderWay$World", "lost", "I", false)
  | 2 => ("GoodsUnderWay$World", "stations", "I", false)
  | 3 => ("GoodsUnderWay$World", "lines", "I", false)
  | 4 => ("GoodsUnderWay$World", "station", "[LGoodsUnderWay$Station;", true)
  | _ => ("GoodsUnderWay$World", "line", "[LGoodsUnderWay$Line;", true)
def tyX6 : Nat → FieldType := fun k => match k with
  | 0 => .int
  | 1 => .int
  | 2 => .int
  | 3 => .int
  | 4 => .array (.object "GoodsUnderWay$Station")
  | _ => .array (.object "GoodsUnderWay$Line")
abbrev wsX60 : List Cond := u_ws RX6 TX6 6
theorem nmX6 : ∀ a, a < 6 → ∀ b, b < 6 → a ≠ b → (TX6 a).2.1 ≠ (TX6 b).2.1 := by decide +kernel
theorem tyX6_ok : ∀ k, k < 6 → parseFieldDescriptor (TX6 k).2.2.1 = some (tyX6 k) := by decide +kernel
abbrev cX6_init : ByteArray := prog_8_method_1_code
def yX6_init : MethodName := ⟨RX6, "<init>", "()V"⟩
abbrev cX6_become : ByteArray := prog_8_method_2_code
def yX6_become : MethodName := ⟨RX6, "become", "(LGoodsUnderWay$World;)V"⟩
abbrev cX6_hasStation : ByteArray := prog_8_method_3_code
def yX6_hasStation : MethodName := ⟨RX6, "hasStation", "(I)Z"⟩
abbrev cX6_hasLine : ByteArray := prog_8_method_4_code
def yX6_hasLine : MethodName := ⟨RX6, "hasLine", "(I)Z"⟩
abbrev cX6_areTwo : ByteArray := prog_8_method_5_code
def yX6_areTwo : MethodName := ⟨RX6, "areTwo", "(II)Z"⟩
abbrev cX6_addStation : ByteArray := prog_8_method_6_code
def yX6_addStation : MethodName := ⟨RX6, "addStation", "(II)I"⟩
abbrev cX6_addLine : ByteArray := prog_8_method_7_code
def yX6_addLine : MethodName := ⟨RX6, "addLine", "(III)I"⟩
abbrev cX6_dispatch : ByteArray := prog_8_method_8_code
def yX6_dispatch : MethodName := ⟨RX6, "dispatch", "(JJ)Z"⟩
abbrev cX6_passTick : ByteArray := prog_8_method_9_code
def yX6_passTick : MethodName := ⟨RX6, "passTick", "()V"⟩
abbrev cX6_follow : ByteArray := prog_8_method_10_code
def yX6_follow : MethodName := ⟨RX6, "follow", "(LGoodsUnderWay$Sheet;I)I"⟩
abbrev cX6_allStock : ByteArray := prog_8_method_11_code
def yX6_allStock : MethodName := ⟨RX6, "allStock", "()I"⟩
abbrev cX6_allUnderWay : ByteArray := prog_8_method_12_code
def yX6_allUnderWay : MethodName := ⟨RX6, "allUnderWay", "()I"⟩
abbrev cX6_allGoods : ByteArray := prog_8_method_13_code
def yX6_allGoods : MethodName := ⟨RX6, "allGoods", "()I"⟩
abbrev cX6_allSent : ByteArray := prog_8_method_14_code
def yX6_allSent : MethodName := ⟨RX6, "allSent", "()I"⟩
abbrev cX6_allRoom : ByteArray := prog_8_method_15_code
def yX6_allRoom : MethodName := ⟨RX6, "allRoom", "()I"⟩
abbrev cX6_losingStations : ByteArray := prog_8_method_16_code
def yX6_losingStations : MethodName := ⟨RX6, "losingStations", "()I"⟩
abbrev cX6_openLines : ByteArray := prog_8_method_17_code
def yX6_openLines : MethodName := ⟨RX6, "openLines", "()I"⟩
abbrev cX6_comingTo : ByteArray := prog_8_method_18_code
def yX6_comingTo : MethodName := ⟨RX6, "comingTo", "(I)I"⟩
abbrev cX6_supply : ByteArray := prog_8_method_19_code
def yX6_supply : MethodName := ⟨RX6, "supply", "(II)I"⟩
abbrev cX6_roomAhead : ByteArray := prog_8_method_20_code
def yX6_roomAhead : MethodName := ⟨RX6, "roomAhead", "(III)I"⟩
abbrev cX6_costOutside : ByteArray := prog_8_method_21_code
def yX6_costOutside : MethodName := ⟨RX6, "costOutside", "(LGoodsUnderWay$Sheet;I)I"⟩
abbrev cX6_costOfLines : ByteArray := prog_8_method_22_code
def yX6_costOfLines : MethodName := ⟨RX6, "costOfLines", "(LGoodsUnderWay$Sheet;I)I"⟩
def RX7 : String := "GoodsUnderWay"
def TX7 : u_T := fun k => match k with
  | 0 => ("GoodsUnderWay", "world", "LGoodsUnderWay$World;", true)
  | 1 => ("GoodsUnderWay", "kept", "LGoodsUnderWay$World;", true)
  | 2 => ("GoodsUnderWay", "thought", "LGoodsUnderWay$World;", true)
  | 3 => ("GoodsUnderWay", "network", "LGoodsUnderWay$Network;", true)
  | 4 => ("GoodsUnderWay", "stream", "LGoodsUnderWay$Stream;", true)
  | 5 => ("GoodsUnderWay", "tape", "LGoodsUnderWay$Tape;", true)
  | 6 => ("GoodsUnderWay", "sheets", "[LGoodsUnderWay$Sheet;", true)
  | 7 => ("GoodsUnderWay", "findings", "[I", true)
  | _ => ("GoodsUnderWay", "isKept", "Z", false)
def tyX7 : Nat → FieldType := fun k => match k with
  | 0 => .object "GoodsUnderWay$World"
  | 1 => .object "GoodsUnderWay$World"
  | 2 => .object "GoodsUnderWay$World"
  | 3 => .object "GoodsUnderWay$Network"
  | 4 => .object "GoodsUnderWay$Stream"
  | 5 => .object "GoodsUnderWay$Tape"
  | 6 => .array (.object "GoodsUnderWay$Sheet")
  | 7 => .array .int
  | _ => .boolean
abbrev wsX70 : List Cond := u_ws RX7 TX7 9
theorem nmX7 : ∀ a, a < 9 → ∀ b, b < 9 → a ≠ b → (TX7 a).2.1 ≠ (TX7 b).2.1 := by decide +kernel
theorem tyX7_ok : ∀ k, k < 9 → parseFieldDescriptor (TX7 k).2.2.1 = some (tyX7 k) := by decide +kernel
abbrev cX7_init : ByteArray := prog_1_method_1_code
def yX7_init : MethodName := ⟨RX7, "<init>", "()V"⟩
abbrev cX7_station : ByteArray := prog_1_method_2_code
def yX7_station : MethodName := ⟨RX7, "station", "(II)I"⟩
abbrev cX7_line : ByteArray := prog_1_method_3_code
def yX7_line : MethodName := ⟨RX7, "line", "(IIIII)I"⟩
abbrev cX7_of : ByteArray := prog_1_method_4_code
def yX7_of : MethodName := ⟨RX7, "of", "(II)I"⟩
abbrev cX7_its : ByteArray := prog_1_method_5_code
def yX7_its : MethodName := ⟨RX7, "its", "(II)I"⟩
abbrev cX7_set : ByteArray := prog_1_method_6_code
def yX7_set : MethodName := ⟨RX7, "set", "(III)I"⟩
abbrev cX7_change : ByteArray := prog_1_method_7_code
def yX7_change : MethodName := ⟨RX7, "change", "(III)I"⟩
abbrev cX7_as : ByteArray := prog_1_method_8_code
def yX7_as : MethodName := ⟨RX7, "as", "(II)I"⟩
abbrev cX7_stands : ByteArray := prog_1_method_9_code
def yX7_stands : MethodName := ⟨RX7, "stands", "(II)I"⟩
abbrev cX7_send : ByteArray := prog_1_method_10_code
def yX7_send : MethodName := ⟨RX7, "send", "(II)I"⟩
abbrev cX7_go : ByteArray := prog_1_method_11_code
def yX7_go : MethodName := ⟨RX7, "go", "(I)I"⟩
abbrev cX7_now : ByteArray := prog_1_method_12_code
def yX7_now : MethodName := ⟨RX7, "now", "(I)I"⟩
abbrev cX7_most : ByteArray := prog_1_method_13_code
def yX7_most : MethodName := ⟨RX7, "most", "(II)I"⟩
abbrev cX7_quick : ByteArray := prog_1_method_14_code
def yX7_quick : MethodName := ⟨RX7, "quick", "(II)I"⟩
abbrev cX7_all : ByteArray := prog_1_method_15_code
def yX7_all : MethodName := ⟨RX7, "all", "(I)I"⟩
abbrev cX7_near : ByteArray := prog_1_method_16_code
def yX7_near : MethodName := ⟨RX7, "near", "(III)I"⟩
abbrev cX7_cost : ByteArray := prog_1_method_17_code
def yX7_cost : MethodName := ⟨RX7, "cost", "(III)I"⟩
abbrev cX7_lose : ByteArray := prog_1_method_18_code
def yX7_lose : MethodName := ⟨RX7, "lose", "(II)I"⟩
abbrev cX7_widen : ByteArray := prog_1_method_19_code
def yX7_widen : MethodName := ⟨RX7, "widen", "(II)I"⟩
abbrev cX7_held : ByteArray := prog_1_method_20_code
def yX7_held : MethodName := ⟨RX7, "held", "(III)I"⟩
abbrev cX7_begin : ByteArray := prog_1_method_21_code
def yX7_begin : MethodName := ⟨RX7, "begin", "(II)I"⟩
abbrev cX7_kind : ByteArray := prog_1_method_22_code
def yX7_kind : MethodName := ⟨RX7, "kind", "(III)I"⟩
abbrev cX7_goal : ByteArray := prog_1_method_23_code
def yX7_goal : MethodName := ⟨RX7, "goal", "(I)I"⟩
abbrev cX7_steady : ByteArray := prog_1_method_24_code
def yX7_steady : MethodName := ⟨RX7, "steady", "(III)I"⟩
abbrev cX7_rate : ByteArray := prog_1_method_25_code
def yX7_rate : MethodName := ⟨RX7, "rate", "(II)I"⟩
abbrev cX7_gain : ByteArray := prog_1_method_26_code
def yX7_gain : MethodName := ⟨RX7, "gain", "(III)I"⟩
abbrev cX7_reach : ByteArray := prog_1_method_27_code
def yX7_reach : MethodName := ⟨RX7, "reach", "(III)I"⟩
abbrev cX7_feed : ByteArray := prog_1_method_28_code
def yX7_feed : MethodName := ⟨RX7, "feed", "(II)I"⟩
abbrev cX7_wipe : ByteArray := prog_1_method_29_code
def yX7_wipe : MethodName := ⟨RX7, "wipe", "()I"⟩
abbrev cX7_text : ByteArray := prog_1_method_30_code
def yX7_text : MethodName := ⟨RX7, "text", "()I"⟩
abbrev cX7_sheet : ByteArray := prog_1_method_31_code
def yX7_sheet : MethodName := ⟨RX7, "sheet", "(III)I"⟩
abbrev cX7_write : ByteArray := prog_1_method_32_code
def yX7_write : MethodName := ⟨RX7, "write", "(IIJ)J"⟩
abbrev cX7_copy : ByteArray := prog_1_method_33_code
def yX7_copy : MethodName := ⟨RX7, "copy", "(IIIII)I"⟩
abbrev cX7_lays : ByteArray := prog_1_method_34_code
def yX7_lays : MethodName := ⟨RX7, "lays", "(I)I"⟩
abbrev cX7_book : ByteArray := prog_1_method_35_code
def yX7_book : MethodName := ⟨RX7, "book", "(II)I"⟩
abbrev cX7_replay : ByteArray := prog_1_method_36_code
def yX7_replay : MethodName := ⟨RX7, "replay", "(III)I"⟩
abbrev cX7_run : ByteArray := prog_1_method_37_code
def yX7_run : MethodName := ⟨RX7, "run", "(III)I"⟩
abbrev cX7_image : ByteArray := prog_1_method_38_code
def yX7_image : MethodName := ⟨RX7, "image", "()I"⟩
abbrev cX7_undo : ByteArray := prog_1_method_39_code
def yX7_undo : MethodName := ⟨RX7, "undo", "()I"⟩
abbrev cX7_tear : ByteArray := prog_1_method_40_code
def yX7_tear : MethodName := ⟨RX7, "tear", "()I"⟩
abbrev cX7_count : ByteArray := prog_1_method_41_code
def yX7_count : MethodName := ⟨RX7, "count", "(I)I"⟩
abbrev cX7_status : ByteArray := prog_1_method_42_code
def yX7_status : MethodName := ⟨RX7, "status", "(I)I"⟩
abbrev cX7_found : ByteArray := prog_1_method_43_code
def yX7_found : MethodName := ⟨RX7, "found", "(I)I"⟩
abbrev cX7_isIn : ByteArray := prog_1_method_44_code
def yX7_isIn : MethodName := ⟨RX7, "isIn", "(III)Z"⟩
abbrev cX7_isUnder : ByteArray := prog_1_method_45_code
def yX7_isUnder : MethodName := ⟨RX7, "isUnder", "([III)Z"⟩
abbrev cX7_isAsked : ByteArray := prog_1_method_46_code
def yX7_isAsked : MethodName := ⟨RX7, "isAsked", "(II)Z"⟩
abbrev cX7_sheetFault : ByteArray := prog_1_method_47_code
def yX7_sheetFault : MethodName := ⟨RX7, "sheetFault", "(I)I"⟩
abbrev cX7_planFault : ByteArray := prog_1_method_48_code
def yX7_planFault : MethodName := ⟨RX7, "planFault", "(III)I"⟩
abbrev cX7_follow : ByteArray := prog_1_method_49_code
def yX7_follow : MethodName := ⟨RX7, "follow", "(III)I"⟩
abbrev cX7_mostIn : ByteArray := prog_1_method_50_code
def yX7_mostIn : MethodName := ⟨RX7, "mostIn", "(LGoodsUnderWay$World;II)I"⟩
abbrev cX7_mostHeld : ByteArray := prog_1_method_51_code
def yX7_mostHeld : MethodName := ⟨RX7, "mostHeld", "(IIII)I"⟩
abbrev cX7_mostWidened : ByteArray := prog_1_method_52_code
def yX7_mostWidened : MethodName := ⟨RX7, "mostWidened", "(III)I"⟩
abbrev cX7_ticksUntil : ByteArray := prog_1_method_53_code
def yX7_ticksUntil : MethodName := ⟨RX7, "ticksUntil", "(II)I"⟩
def RX8 : String := "GoodsUnderWayModel"
def TX8 : u_T := fun k => match k with
  | 0 => ("GoodsUnderWayModel", "found", "[I", true)
  | 1 => ("GoodsUnderWayModel", "tick", "I", false)
  | 2 => ("GoodsUnderWayModel", "lost", "I", false)
  | 3 => ("GoodsUnderWayModel", "stations", "I", false)
  | 4 => ("GoodsUnderWayModel", "sort", "[I", true)
  | 5 => ("GoodsUnderWayModel", "stock", "[I", true)
  | 6 => ("GoodsUnderWayModel", "store", "[I", true)
  | 7 => ("GoodsUnderWayModel", "lines", "I", false)
  | 8 => ("GoodsUnderWayModel", "line", "[I", true)
  | 9 => ("GoodsUnderWayModel", "sent", "[I", true)
  | 10 => ("GoodsUnderWayModel", "way", "[I", true)
  | 11 => ("GoodsUnderWayModel", "roomAt", "[I", true)
  | 12 => ("GoodsUnderWayModel", "holdAt", "[I", true)
  | 13 => ("GoodsUnderWayModel", "comes", "[I", true)
  | 14 => ("GoodsUnderWayModel", "used", "[I", true)
  | 15 => ("GoodsUnderWayModel", "stays", "[I", true)
  | 16 => ("GoodsUnderWayModel", "goes", "[I", true)
  | 17 => ("GoodsUnderWayModel", "lasts", "[I", true)
  | 18 => ("GoodsUnderWayModel", "by", "[I", true)
  | 19 => ("GoodsUnderWayModel", "queue", "[I", true)
  | 20 => ("GoodsUnderWayModel", "queued", "I", false)
  | 21 => ("GoodsUnderWayModel", "flow", "[I", true)
  | 22 => ("GoodsUnderWayModel", "apart", "[I", true)
  | 23 => ("GoodsUnderWayModel", "came", "[I", true)
  | 24 => ("GoodsUnderWayModel", "gains", "[I", true)
  | 25 => ("GoodsUnderWayModel", "tape", "[I", true)
  | 26 => ("GoodsUnderWayModel", "taped", "I", false)
  | 27 => ("GoodsUnderWayModel", "read", "I", false)
  | 28 => ("GoodsUnderWayModel", "began", "I", false)
  | 29 => ("GoodsUnderWayModel", "token", "I", false)
  | 30 => ("GoodsUnderWayModel", "told", "I", false)
  | 31 => ("GoodsUnderWayModel", "words", "[C", true)
  | 32 => ("GoodsUnderWayModel", "last", "I", false)
  | 33 => ("GoodsUnderWayModel", "bitsOf", "[I", true)
  | 34 => ("GoodsUnderWayModel", "sizeOf", "[I", true)
  | 35 => ("GoodsUnderWayModel", "number", "[J", true)
  | 36 => ("GoodsUnderWayModel", "lifted", "[J", true)
  | 37 => ("GoodsUnderWayModel", "kept", "[I", true)
  | 38 => ("GoodsUnderWayModel", "aside", "[I", true)
  | _ => ("GoodsUnderWayModel", "isKept", "Z", false)
def tyX8 : Nat → FieldType := fun k => match k with
  | 0 => .array .int
  | 1 => .int
  | 2 => .int
  | 3 => .int
  | 4 => .array .int
  | 5 => .array .int
  | 6 => .array .int
  | 7 => .int
  | 8 => .array .int
  | 9 => .array .int
  | 10 => .array .int
  | 11 => .array .int
  | 12 => .array .int
  | 13 => .array .int
  | 14 => .array .int
  | 15 => .array .int
  | 16 => .array .int
  | 17 => .array .int
  | 18 => .array .int
  | 19 => .array .int
  | 20 => .int
  | 21 => .array .int
  | 22 => .array .int
  | 23 => .array .int
  | 24 => .array .int
  | 25 => .array .int
  | 26 => .int
  | 27 => .int
  | 28 => .int
  | 29 => .int
  | 30 => .int
  | 31 => .array .char
  | 32 => .int
  | 33 => .array .int
  | 34 => .array .int
  | 35 => .array .long
  | 36 => .array .long
  | 37 => .array .int
  | 38 => .array .int
  | _ => .boolean
abbrev wsX80 : List Cond := u_ws RX8 TX8 40
theorem nmX8 : ∀ a, a < 40 → ∀ b, b < 40 → a ≠ b → (TX8 a).2.1 ≠ (TX8 b).2.1 := by decide +kernel
theorem tyX8_ok : ∀ k, k < 40 → parseFieldDescriptor (TX8 k).2.2.1 = some (tyX8 k) := by decide +kernel
abbrev cX8_init : ByteArray := prog_10_method_1_code
def yX8_init : MethodName := ⟨RX8, "<init>", "()V"⟩
abbrev cX8_in : ByteArray := prog_10_method_3_code
def yX8_in : MethodName := ⟨RX8, "in", "(JJJ)Z"⟩
abbrev cX8_finds : ByteArray := prog_10_method_4_code
def yX8_finds : MethodName := ⟨RX8, "finds", "(I)I"⟩
abbrev cX8_at : ByteArray := prog_10_method_5_code
def yX8_at : MethodName := ⟨RX8, "at", "(II)I"⟩
abbrev cX8_isStation : ByteArray := prog_10_method_6_code
def yX8_isStation : MethodName := ⟨RX8, "isStation", "(I)Z"⟩
abbrev cX8_isLine : ByteArray := prog_10_method_7_code
def yX8_isLine : MethodName := ⟨RX8, "isLine", "(I)Z"⟩
abbrev cX8_holds : ByteArray := prog_10_method_8_code
def yX8_holds : MethodName := ⟨RX8, "holds", "(II)I"⟩
abbrev cX8_roomBy : ByteArray := prog_10_method_9_code
def yX8_roomBy : MethodName := ⟨RX8, "roomBy", "(III)I"⟩
abbrev cX8_room : ByteArray := prog_10_method_10_code
def yX8_room : MethodName := ⟨RX8, "room", "(II)I"⟩
abbrev cX8_takes : ByteArray := prog_10_method_11_code
def yX8_takes : MethodName := ⟨RX8, "takes", "(I)I"⟩
abbrev cX8_onWay : ByteArray := prog_10_method_12_code
def yX8_onWay : MethodName := ⟨RX8, "onWay", "(I)I"⟩
abbrev cX8_sumOf : ByteArray := prog_10_method_13_code
def yX8_sumOf : MethodName := ⟨RX8, "sumOf", "([II)I"⟩
abbrev cX8_allOnWay : ByteArray := prog_10_method_14_code
def yX8_allOnWay : MethodName := ⟨RX8, "allOnWay", "()I"⟩
abbrev cX8_goods : ByteArray := prog_10_method_15_code
def yX8_goods : MethodName := ⟨RX8, "goods", "()I"⟩
abbrev cX8_addStation : ByteArray := prog_10_method_16_code
def yX8_addStation : MethodName := ⟨RX8, "addStation", "(III)V"⟩
abbrev cX8_addLine : ByteArray := prog_10_method_17_code
def yX8_addLine : MethodName := ⟨RX8, "addLine", "(III)V"⟩
abbrev cX8_station : ByteArray := prog_10_method_18_code
def yX8_station : MethodName := ⟨RX8, "station", "(II)I"⟩
abbrev cX8_line : ByteArray := prog_10_method_19_code
def yX8_line : MethodName := ⟨RX8, "line", "(IIIII)I"⟩
abbrev cX8_comesTo : ByteArray := prog_10_method_20_code
def yX8_comesTo : MethodName := ⟨RX8, "comesTo", "(I)I"⟩
abbrev cX8_of : ByteArray := prog_10_method_21_code
def yX8_of : MethodName := ⟨RX8, "of", "(II)I"⟩
abbrev cX8_its : ByteArray := prog_10_method_22_code
def yX8_its : MethodName := ⟨RX8, "its", "(II)I"⟩
abbrev cX8_set : ByteArray := prog_10_method_23_code
def yX8_set : MethodName := ⟨RX8, "set", "(III)I"⟩
abbrev cX8_mayBe : ByteArray := prog_10_method_24_code
def yX8_mayBe : MethodName := ⟨RX8, "mayBe", "(III)Z"⟩
abbrev cX8_change : ByteArray := prog_10_method_25_code
def yX8_change : MethodName := ⟨RX8, "change", "(III)I"⟩
abbrev cX8_as : ByteArray := prog_10_method_26_code
def yX8_as : MethodName := ⟨RX8, "as", "(II)I"⟩
abbrev cX8_stands : ByteArray := prog_10_method_27_code
def yX8_stands : MethodName := ⟨RX8, "stands", "(II)I"⟩
abbrev cX8_canSend : ByteArray := prog_10_method_28_code
def yX8_canSend : MethodName := ⟨RX8, "canSend", "(IJ)Z"⟩
abbrev cX8_sends : ByteArray := prog_10_method_29_code
def yX8_sends : MethodName := ⟨RX8, "sends", "(II)V"⟩
abbrev cX8_send : ByteArray := prog_10_method_30_code
def yX8_send : MethodName := ⟨RX8, "send", "(II)I"⟩
abbrev cX8_oneTick : ByteArray := prog_10_method_31_code
def yX8_oneTick : MethodName := ⟨RX8, "oneTick", "()V"⟩
abbrev cX8_go : ByteArray := prog_10_method_32_code
def yX8_go : MethodName := ⟨RX8, "go", "(I)I"⟩
abbrev cX8_roomOfAll : ByteArray := prog_10_method_33_code
def yX8_roomOfAll : MethodName := ⟨RX8, "roomOfAll", "()I"⟩
abbrev cX8_losing : ByteArray := prog_10_method_34_code
def yX8_losing : MethodName := ⟨RX8, "losing", "()I"⟩
abbrev cX8_openLines : ByteArray := prog_10_method_35_code
def yX8_openLines : MethodName := ⟨RX8, "openLines", "()I"⟩
abbrev cX8_now : ByteArray := prog_10_method_36_code
def yX8_now : MethodName := ⟨RX8, "now", "(I)I"⟩
abbrev cX8_layOut : ByteArray := prog_10_method_37_code
def yX8_layOut : MethodName := ⟨RX8, "layOut", "(IIII)V"⟩
abbrev cX8_meets : ByteArray := prog_10_method_38_code
def yX8_meets : MethodName := ⟨RX8, "meets", "(II)V"⟩
abbrev cX8_searches : ByteArray := prog_10_method_39_code
def yX8_searches : MethodName := ⟨RX8, "searches", "(II)I"⟩
abbrev cX8_spreads : ByteArray := prog_10_method_40_code
def yX8_spreads : MethodName := ⟨RX8, "spreads", "(III)I"⟩
abbrev cX8_behind : ByteArray := prog_10_method_41_code
def yX8_behind : MethodName := ⟨RX8, "behind", "(I)I"⟩
abbrev cX8_leftFor : ByteArray := prog_10_method_42_code
def yX8_leftFor : MethodName := ⟨RX8, "leftFor", "(II)I"⟩
abbrev cX8_moves : ByteArray := prog_10_method_43_code
def yX8_moves : MethodName := ⟨RX8, "moves", "(III)V"⟩
abbrev cX8_brings : ByteArray := prog_10_method_44_code
def yX8_brings : MethodName := ⟨RX8, "brings", "(II)I"⟩
abbrev cX8_ownTill : ByteArray := prog_10_method_45_code
def yX8_ownTill : MethodName := ⟨RX8, "ownTill", "(II)I"⟩
abbrev cX8_mostBy : ByteArray := prog_10_method_46_code
def yX8_mostBy : MethodName := ⟨RX8, "mostBy", "(IIIIII)I"⟩
abbrev cX8_mostOf : ByteArray := prog_10_method_47_code
def yX8_mostOf : MethodName := ⟨RX8, "mostOf", "(II)I"⟩
abbrev cX8_isAhead : ByteArray := prog_10_method_48_code
def yX8_isAhead : MethodName := ⟨RX8, "isAhead", "(I)Z"⟩
abbrev cX8_most : ByteArray := prog_10_method_49_code
def yX8_most : MethodName := ⟨RX8, "most", "(II)I"⟩
abbrev cX8_quickOf : ByteArray := prog_10_method_50_code
def yX8_quickOf : MethodName := ⟨RX8, "quickOf", "(II)I"⟩
abbrev cX8_quick : ByteArray := prog_10_method_51_code
def yX8_quick : MethodName := ⟨RX8, "quick", "(II)I"⟩
abbrev cX8_all : ByteArray := prog_10_method_52_code
def yX8_all : MethodName := ⟨RX8, "all", "(I)I"⟩
abbrev cX8_near : ByteArray := prog_10_method_53_code
def yX8_near : MethodName := ⟨RX8, "near", "(III)I"⟩
abbrev cX8_cost : ByteArray := prog_10_method_54_code
def yX8_cost : MethodName := ⟨RX8, "cost", "(III)I"⟩
abbrev cX8_lose : ByteArray := prog_10_method_55_code
def yX8_lose : MethodName := ⟨RX8, "lose", "(II)I"⟩
abbrev cX8_widen : ByteArray := prog_10_method_56_code
def yX8_widen : MethodName := ⟨RX8, "widen", "(II)I"⟩
abbrev cX8_held : ByteArray := prog_10_method_57_code
def yX8_held : MethodName := ⟨RX8, "held", "(III)I"⟩
abbrev cX8_begin : ByteArray := prog_10_method_58_code
def yX8_begin : MethodName := ⟨RX8, "begin", "(II)I"⟩
abbrev cX8_kind : ByteArray := prog_10_method_59_code
def yX8_kind : MethodName := ⟨RX8, "kind", "(III)I"⟩
abbrev cX8_goal : ByteArray := prog_10_method_60_code
def yX8_goal : MethodName := ⟨RX8, "goal", "(I)I"⟩
abbrev cX8_nearer : ByteArray := prog_10_method_61_code
def yX8_nearer : MethodName := ⟨RX8, "nearer", "(IIII)Z"⟩
abbrev cX8_measures : ByteArray := prog_10_method_62_code
def yX8_measures : MethodName := ⟨RX8, "measures", "(I)V"⟩
abbrev cX8_stepBack : ByteArray := prog_10_method_63_code
def yX8_stepBack : MethodName := ⟨RX8, "stepBack", "(I)I"⟩
abbrev cX8_findsGains : ByteArray := prog_10_method_64_code
def yX8_findsGains : MethodName := ⟨RX8, "findsGains", "(II)V"⟩
abbrev cX8_steadyBehind : ByteArray := prog_10_method_65_code
def yX8_steadyBehind : MethodName := ⟨RX8, "steadyBehind", "(J)J"⟩
abbrev cX8_areTwo : ByteArray := prog_10_method_66_code
def yX8_areTwo : MethodName := ⟨RX8, "areTwo", "(II)Z"⟩
abbrev cX8_steady : ByteArray := prog_10_method_67_code
def yX8_steady : MethodName := ⟨RX8, "steady", "(III)I"⟩
abbrev cX8_rate : ByteArray := prog_10_method_68_code
def yX8_rate : MethodName := ⟨RX8, "rate", "(II)I"⟩
abbrev cX8_gain : ByteArray := prog_10_method_69_code
def yX8_gain : MethodName := ⟨RX8, "gain", "(III)I"⟩
abbrev cX8_reach : ByteArray := prog_10_method_70_code
def yX8_reach : MethodName := ⟨RX8, "reach", "(III)I"⟩
abbrev cX8_feed : ByteArray := prog_10_method_71_code
def yX8_feed : MethodName := ⟨RX8, "feed", "(II)I"⟩
abbrev cX8_wipe : ByteArray := prog_10_method_72_code
def yX8_wipe : MethodName := ⟨RX8, "wipe", "()I"⟩
abbrev cX8_byteAt : ByteArray := prog_10_method_73_code
def yX8_byteAt : MethodName := ⟨RX8, "byteAt", "(I)I"⟩
abbrev cX8_isWordFrom : ByteArray := prog_10_method_74_code
def yX8_isWordFrom : MethodName := ⟨RX8, "isWordFrom", "(I)Z"⟩
abbrev cX8_next : ByteArray := prog_10_method_75_code
def yX8_next : MethodName := ⟨RX8, "next", "()V"⟩
abbrev cX8_isWord : ByteArray := prog_10_method_76_code
def yX8_isWord : MethodName := ⟨RX8, "isWord", "(I)Z"⟩
abbrev cX8_takesNumber : ByteArray := prog_10_method_77_code
def yX8_takesNumber : MethodName := ⟨RX8, "takesNumber", "(II)Z"⟩
abbrev cX8_perhaps : ByteArray := prog_10_method_78_code
def yX8_perhaps : MethodName := ⟨RX8, "perhaps", "(IIII)Z"⟩
abbrev cX8_readsStation : ByteArray := prog_10_method_79_code
def yX8_readsStation : MethodName := ⟨RX8, "readsStation", "(I)Z"⟩
abbrev cX8_readsLine : ByteArray := prog_10_method_80_code
def yX8_readsLine : MethodName := ⟨RX8, "readsLine", "(I)Z"⟩
abbrev cX8_readsItem : ByteArray := prog_10_method_81_code
def yX8_readsItem : MethodName := ⟨RX8, "readsItem", "()Z"⟩
abbrev cX8_text : ByteArray := prog_10_method_82_code
def yX8_text : MethodName := ⟨RX8, "text", "()I"⟩
abbrev cX8_isSheet : ByteArray := prog_10_method_83_code
def yX8_isSheet : MethodName := ⟨RX8, "isSheet", "(I)Z"⟩
abbrev cX8_narrow : ByteArray := prog_10_method_84_code
def yX8_narrow : MethodName := ⟨RX8, "narrow", "(IJ)J"⟩
abbrev cX8_sheet : ByteArray := prog_10_method_85_code
def yX8_sheet : MethodName := ⟨RX8, "sheet", "(III)I"⟩
abbrev cX8_write : ByteArray := prog_10_method_86_code
def yX8_write : MethodName := ⟨RX8, "write", "(IIJ)J"⟩
abbrev cX8_copy : ByteArray := prog_10_method_87_code
def yX8_copy : MethodName := ⟨RX8, "copy", "(IIIII)I"⟩
abbrev cX8_lays : ByteArray := prog_10_method_88_code
def yX8_lays : MethodName := ⟨RX8, "lays", "(I)I"⟩
abbrev cX8_book : ByteArray := prog_10_method_89_code
def yX8_book : MethodName := ⟨RX8, "book", "(II)I"⟩
abbrev cX8_sendsAll : ByteArray := prog_10_method_90_code
def yX8_sendsAll : MethodName := ⟨RX8, "sendsAll", "(II)I"⟩
abbrev cX8_goesBy : ByteArray := prog_10_method_91_code
def yX8_goesBy : MethodName := ⟨RX8, "goesBy", "(II)I"⟩
abbrev cX8_plans : ByteArray := prog_10_method_92_code
def yX8_plans : MethodName := ⟨RX8, "plans", "(IIIZ)I"⟩
abbrev cX8_replay : ByteArray := prog_10_method_93_code
def yX8_replay : MethodName := ⟨RX8, "replay", "(III)I"⟩
abbrev cX8_run : ByteArray := prog_10_method_94_code
def yX8_run : MethodName := ⟨RX8, "run", "(III)I"⟩
abbrev cX8_puts : ByteArray := prog_10_method_95_code
def yX8_puts : MethodName := ⟨RX8, "puts", "([II[I)I"⟩
abbrev cX8_gets : ByteArray := prog_10_method_96_code
def yX8_gets : MethodName := ⟨RX8, "gets", "([II[I)I"⟩
abbrev cX8_keeps : ByteArray := prog_10_method_97_code
def yX8_keeps : MethodName := ⟨RX8, "keeps", "([I)V"⟩
abbrev cX8_comesBack : ByteArray := prog_10_method_98_code
def yX8_comesBack : MethodName := ⟨RX8, "comesBack", "([I)V"⟩
abbrev cX8_image : ByteArray := prog_10_method_99_code
def yX8_image : MethodName := ⟨RX8, "image", "()I"⟩
abbrev cX8_undo : ByteArray := prog_10_method_100_code
def yX8_undo : MethodName := ⟨RX8, "undo", "()I"⟩
abbrev cX8_tear : ByteArray := prog_10_method_101_code
def yX8_tear : MethodName := ⟨RX8, "tear", "()I"⟩
abbrev cX8_count : ByteArray := prog_10_method_102_code
def yX8_count : MethodName := ⟨RX8, "count", "(I)I"⟩
abbrev cX8_status : ByteArray := prog_10_method_103_code
def yX8_status : MethodName := ⟨RX8, "status", "(I)I"⟩
def RJx145de : String := "java/io/Serializable"
def TJx145de : u_T := fun k => match k with
  | _ => ("", "", "", false)
def tyJx145de : Nat → FieldType := fun k => match k with
  | _ => .int
abbrev wsJx145de0 : List Cond := u_ws RJx145de TJx145de 0
theorem nmJx145de : ∀ a, a < 0 → ∀ b, b < 0 → a ≠ b → (TJx145de a).2.1 ≠ (TJx145de b).2.1 := by decide +kernel
theorem tyJx145de_ok : ∀ k, k < 0 → parseFieldDescriptor (TJx145de k).2.2.1 = some (tyJx145de k) := by decide +kernel
def RJx9f9b0 : String := "java/lang/CharSequence"
def TJx9f9b0 : u_T := fun k => match k with
  | _ => ("", "", "", false)
def tyJx9f9b0 : Nat → FieldType := fun k => match k with
  | _ => .int
abbrev wsJx9f9b00 : List Cond := u_ws RJx9f9b0 TJx9f9b0 0
theorem nmJx9f9b0 : ∀ a, a < 0 → ∀ b, b < 0 → a ≠ b → (TJx9f9b0 a).2.1 ≠ (TJx9f9b0 b).2.1 := by decide +kernel
theorem tyJx9f9b0_ok : ∀ k, k < 0 → parseFieldDescriptor (TJx9f9b0 k).2.2.1 = some (tyJx9f9b0 k) := by decide +kernel
def RJxb160c : String := "java/lang/Comparable"
def TJxb160c : u_T := fun k => match k with
  | _ => ("", "", "", false)
def tyJxb160c : Nat → FieldType := fun k => match k with
  | _ => .int
abbrev wsJxb160c0 : List Cond := u_ws RJxb160c TJxb160c 0
theorem nmJxb160c : ∀ a, a < 0 → ∀ b, b < 0 → a ≠ b → (TJxb160c a).2.1 ≠ (TJxb160c b).2.1 := by decide +kernel
theorem tyJxb160c_ok : ∀ k, k < 0 → parseFieldDescriptor (TJxb160c k).2.2.1 = some (tyJxb160c k) := by decide +kernel
def RJ9 : String := "java/lang/Math"
def TJ9 : u_T := fun k => match k with
  | _ => ("", "", "", false)
def tyJ9 : Nat → FieldType := fun k => match k with
  | _ => .int
abbrev wsJ90 : List Cond := u_ws RJ9 TJ9 0
theorem nmJ9 : ∀ a, a < 0 → ∀ b, b < 0 → a ≠ b → (TJ9 a).2.1 ≠ (TJ9 b).2.1 := by decide +kernel
theorem tyJ9_ok : ∀ k, k < 0 → parseFieldDescriptor (TJ9 k).2.2.1 = some (tyJ9 k) := by decide +kernel
abbrev cJ9_max_7cf53 : ByteArray := prog_11_method_65_code
def yJ9_max_7cf53 : MethodName := ⟨RJ9, "max", "(II)I"⟩
abbrev cJ9_min_7cf53 : ByteArray := prog_11_method_69_code
def yJ9_min_7cf53 : MethodName := ⟨RJ9, "min", "(II)I"⟩
def RJ0 : String := "java/lang/String"
def TJ0 : u_T := fun k => match k with
  | _ => ("", "", "", false)
def tyJ0 : Nat → FieldType := fun k => match k with
  | _ => .int
abbrev wsJ00 : List Cond := u_ws RJ0 TJ0 0
theorem nmJ0 : ∀ a, a < 0 → ∀ b, b < 0 → a ≠ b → (TJ0 a).2.1 ≠ (TJ0 b).2.1 := by decide +kernel
theorem tyJ0_ok : ∀ k, k < 0 → parseFieldDescriptor (TJ0 k).2.2.1 = some (tyJ0 k) := by decide +kernel
abbrev cJ0_length_8abf5 : ByteArray := prog_12_method_54_code
def yJ0_length_8abf5 : MethodName := ⟨RJ0, "length", "()I"⟩
abbrev cJ0_charAt_5068e : ByteArray := prog_12_method_56_code
def yJ0_charAt_5068e : MethodName := ⟨RJ0, "charAt", "(I)C"⟩
abbrev cJ0_coder_7d493 : ByteArray := prog_12_method_152_code
def yJ0_coder_7d493 : MethodName := ⟨RJ0, "coder", "()B"⟩
abbrev cJ0_isLatin1_aae02 : ByteArray := prog_12_method_154_code
def yJ0_isLatin1_aae02 : MethodName := ⟨RJ0, "isLatin1", "()Z"⟩
abbrev cJ0_checkIndex_df160 : ByteArray := prog_12_method_155_code
def yJ0_checkIndex_df160 : MethodName := ⟨RJ0, "checkIndex", "(II)V"⟩
def RJ1 : String := "java/lang/StringLatin1"
def TJ1 : u_T := fun k => match k with
  | _ => ("", "", "", false)
def tyJ1 : Nat → FieldType := fun k => match k with
  | _ => .int
abbrev wsJ10 : List Cond := u_ws RJ1 TJ1 0
theorem nmJ1 : ∀ a, a < 0 → ∀ b, b < 0 → a ≠ b → (TJ1 a).2.1 ≠ (TJ1 b).2.1 := by decide +kernel
theorem tyJ1_ok : ∀ k, k < 0 → parseFieldDescriptor (TJ1 k).2.2.1 = some (tyJ1 k) := by decide +kernel
abbrev cJ1_charAt_3b067 : ByteArray := prog_13_method_2_code
def yJ1_charAt_3b067 : MethodName := ⟨RJ1, "charAt", "([BI)C"⟩
def RJ2 : String := "java/lang/StringUTF16"
def TJ2 : u_T := fun k => match k with
  | _ => ("", "", "", false)
def tyJ2 : Nat → FieldType := fun k => match k with
  | _ => .int
abbrev wsJ20 : List Cond := u_ws RJ2 TJ2 0
theorem nmJ2 : ∀ a, a < 0 → ∀ b, b < 0 → a ≠ b → (TJ2 a).2.1 ≠ (TJ2 b).2.1 := by decide +kernel
theorem tyJ2_ok : ∀ k, k < 0 → parseFieldDescriptor (TJ2 k).2.2.1 = some (tyJ2 k) := by decide +kernel
abbrev cJ2_getChar_3b067 : ByteArray := prog_14_method_5_code
def yJ2_getChar_3b067 : MethodName := ⟨RJ2, "getChar", "([BI)C"⟩
abbrev cJ2_length_9d52b : ByteArray := prog_14_method_6_code
def yJ2_length_9d52b : MethodName := ⟨RJ2, "length", "([B)I"⟩
abbrev cJ2_charAt_3b067 : ByteArray := prog_14_method_83_code
def yJ2_charAt_3b067 : MethodName := ⟨RJ2, "charAt", "([BI)C"⟩
abbrev cJ2_checkIndex_2214a : ByteArray := prog_14_method_91_code
def yJ2_checkIndex_2214a : MethodName := ⟨RJ2, "checkIndex", "(I[B)V"⟩
def RJ10 : String := "java/lang/System"
def TJ10 : u_T := fun k => match k with
  | _ => ("", "", "", false)
def tyJ10 : Nat → FieldType := fun k => match k with
  | _ => .int
abbrev wsJ100 : List Cond := u_ws RJ10 TJ10 0
theorem nmJ10 : ∀ a, a < 0 → ∀ b, b < 0 → a ≠ b → (TJ10 a).2.1 ≠ (TJ10 b).2.1 := by decide +kernel
theorem tyJ10_ok : ∀ k, k < 0 → parseFieldDescriptor (TJ10 k).2.2.1 = some (tyJ10 k) := by decide +kernel
def RJxfd54e : String := "java/lang/constant/Constable"
def TJxfd54e : u_T := fun k => match k with
  | _ => ("", "", "", false)
def tyJxfd54e : Nat → FieldType := fun k => match k with
  | _ => .int
abbrev wsJxfd54e0 : List Cond := u_ws RJxfd54e TJxfd54e 0
theorem nmJxfd54e : ∀ a, a < 0 → ∀ b, b < 0 → a ≠ b → (TJxfd54e a).2.1 ≠ (TJxfd54e b).2.1 := by decide +kernel
theorem tyJxfd54e_ok : ∀ k, k < 0 → parseFieldDescriptor (TJxfd54e k).2.2.1 = some (tyJxfd54e k) := by decide +kernel
def RJx3cf43 : String := "java/lang/constant/ConstantDesc"
def TJx3cf43 : u_T := fun k => match k with
  | _ => ("", "", "", false)
def tyJx3cf43 : Nat → FieldType := fun k => match k with
  | _ => .int
abbrev wsJx3cf430 : List Cond := u_ws RJx3cf43 TJx3cf43 0
theorem nmJx3cf43 : ∀ a, a < 0 → ∀ b, b < 0 → a ≠ b → (TJx3cf43 a).2.1 ≠ (TJx3cf43 b).2.1 := by decide +kernel
theorem tyJx3cf43_ok : ∀ k, k < 0 → parseFieldDescriptor (TJx3cf43 k).2.2.1 = some (tyJx3cf43 k) := by decide +kernel
def RJ7 : String := "java/util/Arrays"
def TJ7 : u_T := fun k => match k with
  | _ => ("", "", "", false)
def tyJ7 : Nat → FieldType := fun k => match k with
  | _ => .int
abbrev wsJ70 : List Cond := u_ws RJ7 TJ7 0
theorem nmJ7 : ∀ a, a < 0 → ∀ b, b < 0 → a ≠ b → (TJ7 a).2.1 ≠ (TJ7 b).2.1 := by decide +kernel
theorem tyJ7_ok : ∀ k, k < 0 → parseFieldDescriptor (TJ7 k).2.2.1 = some (tyJ7 k) := by decide +kernel
abbrev cJ7_fill_d0a16 : ByteArray := prog_16_method_101_code
def yJ7_fill_d0a16 : MethodName := ⟨RJ7, "fill", "([JJ)V"⟩
abbrev cJ7_fill_53178 : ByteArray := prog_16_method_103_code
def yJ7_fill_53178 : MethodName := ⟨RJ7, "fill", "([II)V"⟩
def RJ3 : String := "jdk/internal/util/Preconditions"
def TJ3 : u_T := fun k => match k with
  | _ => ("", "", "", false)
def tyJ3 : Nat → FieldType := fun k => match k with
  | _ => .int
abbrev wsJ30 : List Cond := u_ws RJ3 TJ3 0
theorem nmJ3 : ∀ a, a < 0 → ∀ b, b < 0 → a ≠ b → (TJ3 a).2.1 ≠ (TJ3 b).2.1 := by decide +kernel
theorem tyJ3_ok : ∀ k, k < 0 → parseFieldDescriptor (TJ3 k).2.2.1 = some (tyJ3 k) := by decide +kernel
abbrev cJ3_checkIndex_8e157 : ByteArray := prog_17_method_11_code
def yJ3_checkIndex_8e157 : MethodName := ⟨RJ3, "checkIndex", "(IILjava/util/function/BiFunction;)I"⟩
def RL : String := "GoodsUnderWayLaw"
abbrev cL_law : ByteArray := code
def yL_law : MethodName := ⟨RL, "law", "([I)Z"⟩
abbrev vwCl : List vw_C := [(RX0, TX0, 10), (RX1, TX1, 17), (RX2, TX2, 3), (RX3, TX3, 3), (RX4, TX4, 7), (RX5, TX5, 7), (RX6, TX6, 6), (RX7, TX7, 9), (RX8, TX8, 40)]
end
section
/-! THE SMALL MACHINE'S HEAP: cells by number; gi, gl: numbers in cells; gw: the two references that change (the worlds that the network and the stream look at) -/
def lwg : List Cond := lw_tbl.filter goodWord
theorem lwg_of {w : Cond} (i : Nat) (h : lw_tbl[i]? = some w) (hg : goodWord w = true) : w ∈ lwg := List.mem_filter.mpr ⟨List.mem_of_getElem? h, hg⟩
theorem lwg_good {ws : List Cond} (h : ∀ w ∈ ws, w ∈ lwg) : GoodIn lwg ws := fun w hw => ⟨h w hw, good_of_word (List.mem_filter.mp (h w hw)).2⟩
abbrev HP : Type := (Nat → Nat → Int32) × (Nat → Nat → Int64) × (Nat → Nat)
def gi (h : HP) (a k : Nat) : Int32 := h.1 a k
def gl (h : HP) (a k : Nat) : Int64 := h.2.1 a k
def gw (h : HP) (k : Nat) : Nat := h.2.2 k
def si (h : HP) (a k : Nat) (v : Int32) : HP := (fun x j => if x = a ∧ j = k then v else h.1 x j, h.2.1, h.2.2)
def sl (h : HP) (a k : Nat) (v : Int64) : HP := (h.1, fun x j => if x = a ∧ j = k then v else h.2.1 x j, h.2.2)
def sw (h : HP) (k v : Nat) : HP := (h.1, h.2.1, fun j => if j = k then v else h.2.2 j)
def cpi (h : HP) (a b sp dp n : Nat) : HP := (fun x j => if x = b ∧ dp ≤ j ∧ j < dp + n then h.1 a (sp + (j - dp)) else h.1 x j, h.2.1, h.2.2)
def cpl (h : HP) (a b sp dp n : Nat) : HP := (h.1, fun x j => if x = b ∧ dp ≤ j ∧ j < dp + n then h.2.1 a (sp + (j - dp)) else h.2.1 x j, h.2.2)
/-- what a cell is: 0 to 8 an object of that class of vwCl, 10 ints, 11 chars, 12 longs, 13 stations, 14 lines, 15 sheets; and an array's length -/
def ktW : List (Nat × Nat) := [(6, 0), (13, 6), (14, 10), (3, 0), (3, 0), (3, 0), (3, 0), (3, 0), (3, 0), (0, 0), (10, 16), (0, 0), (10, 16), (0, 0), (10, 16), (0, 0), (10, 16), (0, 0), (10, 16), (0, 0), (10, 16), (0, 0), (10, 16), (0, 0), (10, 16), (0, 0), (10, 16), (0, 0), (10, 16)]
def ktN : List (Nat × Nat) := [(1, 0), (10, 152), (10, 1068), (10, 1068), (10, 1068), (10, 534), (10, 152), (10, 152), (10, 152), (10, 152), (10, 152), (4, 0), (10, 121), (10, 10), (10, 10), (10, 6), (10, 6), (5, 0), (10, 120), (15, 4), (10, 8), (2, 0), (12, 40), (2, 0), (12, 40), (2, 0), (12, 40), (2, 0), (12, 40)]
def ktM : List (Nat × Nat) := [(8, 0), (10, 8), (10, 6), (10, 6), (10, 6), (10, 80), (10, 10), (10, 160), (10, 250), (10, 150), (10, 150), (10, 150), (10, 150), (10, 250), (10, 10), (10, 150), (10, 150), (10, 10), (10, 6), (10, 6), (10, 121), (10, 120), (11, 128), (10, 4), (10, 4), (12, 160), (12, 40), (10, 280), (10, 280)]
def kt : List (Nat × Nat) := (7, 0) :: (ktW ++ (ktW ++ (ktW ++ (ktN ++ ktM))))
theorem kt_len : kt.length = 146 := by decide +kernel
def kd (i : Nat) : Nat := (kt.getD i (99, 0)).1
def kn (i : Nat) : Nat := (kt.getD i (99, 0)).2
theorem kd_lt {i c : Nat} (h : kd i = c) (hc : c ≠ 99) : i < 146 := by
  apply Decidable.byContradiction
  intro hi
  apply hc
  rw [← h]
  unfold kd
  rw [List.getD_eq_getElem?_getD, List.getElem?_eq_none (by rw [kt_len]; omega)]
  rfl
/-- the fields of a class: 0 a number, 1 and 2 the worlds of network and stream, n + 3 the cell n further on -/
def fc : Nat → List Nat
  | 0 => [0, 0, 0, 0, 0, 0, 0, 0, 0, 4]
  | 1 => [1, 0, 0, 0, 0, 0, 0, 4, 5, 6, 7, 8, 9, 10, 11, 12, 13]
  | 2 => [4, 0, 0]
  | 3 => [0, 0, 0]
  | 4 => [2, 4, 0, 5, 6, 7, 8]
  | 5 => [4, 0, 0, 0, 0, 0, 0]
  | 6 => [0, 0, 0, 0, 4, 5]
  | 7 => [4, 33, 62, 91, 102, 108, 110, 111, 0]
  | 8 => [4, 0, 0, 0, 5, 6, 7, 0, 8, 9, 10, 11, 12, 13, 14, 15, 16, 17, 18, 19, 0, 20, 21, 22, 23, 24, 0, 0, 0, 0, 0, 25, 0, 26, 27, 28, 29, 30, 31, 0]
  | _ => []
/-- what is given from outside: where the new cells begin, the heap at the law's start, class numbers and slots, array classes, addresses of what isn't ours, the script, the launch -/
abbrev GE : Type := Nat × Heap × (Nat → ClassId) × (Nat → Nat → Nat) × (Nat → ClassId) × (Nat → Nat) × (Nat × (Nat → Int32)) × Launch
def gB (g : GE) : Nat := g.1
def gH (g : GE) : Heap := g.2.1
def gC (g : GE) : Nat → ClassId := g.2.2.1
def gS (g : GE) : Nat → Nat → Nat := g.2.2.2.1
def gA (g : GE) : Nat → ClassId := g.2.2.2.2.1
def gF (g : GE) : Nat → Nat := g.2.2.2.2.2.1
def gX (g : GE) : Nat × (Nat → Int32) := g.2.2.2.2.2.2.1
def gL (g : GE) : Launch := g.2.2.2.2.2.2.2
def adr (g : GE) (i : Nat) : Nat := if i < 5000 then gB g + i else gF g (i - 5000)
def cv (g : GE) : Value → Value
  | .ref a => .ref (adr g a)
  | v => v
def fv (g : GE) (h : HP) (i k : Nat) : Nat → Value
  | 0 => .int (gi h i k)
  | 1 => if gw h 0 = 0 then .null else .ref (gB g + gw h 0)
  | 2 => if gw h 1 = 0 then .null else .ref (gB g + gw h 1)
  | n + 3 => .ref (gB g + (i + n))
def objF (g : GE) (h : HP) (i : Nat) (cs : List Nat) : List Value := cs.mapIdx (fun k c => fv g h i k c)
def cellE (g : GE) (h : HP) (i : Nat) : va_E :=
  if kd i < 10 then .inr (kd i, objF g h i (fc (kd i)))
  else if kd i = 10 then .inl (gA g 0, kn i, .inl (gi h i))
  else if kd i = 11 then .inl (gA g 1, kn i, .inl (gi h i))
  else if kd i = 12 then .inl (gA g 2, kn i, .inr (.inl (gl h i)))
  else if kd i = 13 then .inl (gA g 3, kn i, .inr (.inr (.inr (.inr (fun j => some (gB g + (i + 2 + j)))))))
  else if kd i = 14 then .inl (gA g 4, kn i, .inr (.inr (.inr (.inr (fun j => some (gB g + (i + 7 + 2 * j)))))))
  else .inl (gA g 5, kn i, .inr (.inr (.inr (.inr (fun j => some (gB g + (i + 2 + 2 * j)))))))
def wd (g : GE) (h : HP) : va_W := (List.range 146).map (fun i => (gB g + i, cellE g h i))
theorem wd_get {g : GE} {h : HP} {i : Nat} (hi : i < 146) : (wd g h)[i]? = some (gB g + i, cellE g h i) := by
  simp [wd, hi]
theorem wd_D (g : GE) (h : HP) : va_D (fun q => gB g ≤ q) (wd g h) := by
  have key : ∀ (i : Nat) (p : Nat × va_E), (wd g h)[i]? = some p → p.1 = gB g + i := by
    intro i p hp
    simp only [wd, List.getElem?_map, Option.map_eq_some_iff] at hp
    obtain ⟨a, h1, h2⟩ := hp
    have h3 : a = i := by
      have := List.getElem?_eq_some_iff.mp h1
      obtain ⟨h4, h5⟩ := this
      simp at h5
      exact h5.symm
    rw [← h2, h3]
  refine ⟨fun i j p q hi hj e => ?_, fun k q hk => ?_⟩
  · have h1 := key i p hi
    have h2 := key j q hj
    omega
  · have h1 := key k q hk
    omega
theorem wd_set {g : GE} {h h' : HP} {i : Nat} {e : va_E} (he : cellE g h' i = e) (ho : ∀ j, j < 146 → j ≠ i → cellE g h' j = cellE g h j) : (wd g h).set i (gB g + i, e) = wd g h' := by
  apply List.ext_getElem?
  intro j
  by_cases hj : j = i
  · subst hj
    by_cases hl : j < 146
    · rw [List.getElem?_set_self (by simpa [wd] using hl), wd_get hl, he]
    · rw [List.getElem?_eq_none (by simp [wd]; omega), List.getElem?_eq_none (by simp [wd]; omega)]
  · rw [List.getElem?_set_ne (fun q => hj q.symm)]
    by_cases hl : j < 146
    · rw [wd_get hl, wd_get hl, ho j hl hj]
    · rw [List.getElem?_eq_none (by simp [wd]; omega), List.getElem?_eq_none (by simp [wd]; omega)]
abbrev frA (g : GE) : Nat → Prop := fun q => gB g ≤ q
abbrev tysG (g : GE) : List (ClassId × FieldType) := [(gA g 0, .int), (gA g 1, .char), (gA g 2, .long), (gA g 3, .object RX3), (gA g 4, .object RX0), (gA g 5, .object RX2)]
def luT (j : Nat) : Int32 := ([-1, 0, 0, 1, 2, 0] : List Int32).getD j 0
def suT (j : Nat) : Int32 := ([-1, 0, 0, 1] : List Int32).getD j 0
/-- the world: the cells hold what h says, nothing old has changed -/
def Rep (g : GE) (h : HP) (H : Heap) : Prop := va_P (gC g, gS g) vwCl (wd g h) H ∧ gB g ≤ H.size ∧ ∀ q, q < gB g → H[q]? = (gH g)[q]?
def nmS : List (Nat × String) := [(72, "yard"), (74, "shed"), (76, "quay"), (78, "vault"), (80, "road"), (82, "rail"), (84, "ferry"), (86, "express"), (88, "barge"), (90, "pass"), (113, "stock"), (119, "store"), (140, "wide"), (147, "long"), (151, "tide"), (155, "later")]
def leS : List Nat := [4, 4, 4, 5, 4, 4, 5, 7, 5, 4, 5, 5, 4, 4, 4, 5]
def byS : List (List Int32) := [[121, 97, 114, 100], [115, 104, 101, 100], [113, 117, 97, 121], [118, 97, 117, 108, 116], [114, 111, 97, 100], [114, 97, 105, 108], [102, 101, 114, 114, 121], [101, 120, 112, 114, 101, 115, 115], [98, 97, 114, 103, 101], [112, 97, 115, 115], [115, 116, 111, 99, 107], [115, 116, 111, 114, 101], [119, 105, 100, 101], [108, 111, 110, 103], [116, 105, 100, 101], [108, 97, 116, 101, 114]]
/-- what isn't ours and never changes: the script, two static rows, texts -/
def FR (g : GE) (U : State) : Prop :=
  va_X (gF g 0) (gX g).1 (gX g).2 U (gH g) ∧ gF g 0 < gB g ∧ (gH g).size = gB g ∧
  va_T .int (gF g 1) 6 (fun j => .int (luT j)) (frA g) U (gH g) ∧ va_T .int (gF g 2) 4 (fun j => .int (suT j)) (frA g) U (gH g) ∧
  va_Z RX7 "LINE_UNDER" "[I" (.ref (gF g 1)) (frA g) U (gH g) ∧ va_Z RX7 "STATION_UNDER" "[I" (.ref (gF g 2)) (frA g) U (gH g) ∧
  va_Z "java/lang/String" "COMPACT_STRINGS" "Z" (.int 1) (frA g) U (gH g) ∧
  (va_Z "jdk/internal/util/Preconditions" "SIOOBE_FORMATTER" "Ljava/util/function/BiFunction;" .null (frA g) U (gH g) ∨ va_Z "jdk/internal/util/Preconditions" "SIOOBE_FORMATTER" "Ljava/util/function/BiFunction;" (.ref (gF g 3)) (frA g) U (gH g)) ∧
  vk_S 16 leS byS (fun i => gF g (1000 + i)) (fun i => gF g (2000 + i)) (frA g) U (gH g)
def FT (g : GE) (U : State) : Prop := ∀ i, i < 16 → vk_R RX5 (nmS.getD i (0, "")).1 (nmS.getD i (0, "")).2 (gF g (1000 + i)) U
def nmN : List (String × Nat) := [(RX6, 45), (RX4, 72), (RX5, 61)]
def FN (U : State) : Prop := ∀ q ∈ nmN, va_Nw (.methodLinkNest q.1 q.2 yX7_isIn RX7) U
def FZ (g : GE) (U : State) : Prop := va_K (gC g, gS g) vwCl (tysG g) U ∧ FR g U ∧ FT g U ∧ FN U
theorem FZ.warm {g : GE} {s U : State} (hW : s.WarmedH U.vm) (h : FZ g s) : FZ g U := by
  have hvm := hW.alike
  obtain ⟨h1, ⟨a1, a2, a3, a4, a5, a6, a7, a8, a9, a10⟩, h3, h4⟩ := h
  exact ⟨va_K.moved hvm h1, ⟨a1.moved hvm, a2, a3, a4.moved hvm, a5.moved hvm, a6.moved hvm, a7.moved hvm, a8.moved hvm, a9.imp (fun q => q.moved hvm) (fun q => q.moved hvm), a10.moved hvm⟩, fun i hi => (h3 i hi).warm hW, fun q hq => va_Nw.warmM hW (h4 q hq)⟩
theorem FZ.same {g : GE} {s U : State} (hv : U.vm = s.vm) (h : FZ g s) : FZ g U := by
  have hvm : s.vm.Alike U.vm := by rw [hv]; exact Vm.Alike.refl s.vm
  obtain ⟨h1, ⟨a1, a2, a3, a4, a5, a6, a7, a8, a9, a10⟩, h3, h4⟩ := h
  exact ⟨va_K.moved hvm h1, ⟨a1.moved hvm, a2, a3, a4.moved hvm, a5.moved hvm, a6.moved hvm, a7.moved hvm, a8.moved hvm, a9.imp (fun q => q.moved hvm) (fun q => q.moved hvm), a10.moved hvm⟩, fun i hi => (h3 i hi).same hv, fun q hq => va_Nw.same rfl hv.symm (h4 q hq)⟩
/-- a method: frames and words that it needs below it, its class, bytes, places of locals, answer, name -/
abbrev MD : Type := (Nat × Nat) × String × ByteArray × Nat × Option FieldType × MethodName
def dF (d : MD) : Nat := d.1.1
def dW (d : MD) : Nat := d.1.2
def dO (d : MD) : String := d.2.1
def dB (d : MD) : ByteArray := d.2.2.1
def dN (d : MD) : Nat := d.2.2.2.1
def dR (d : MD) : Option FieldType := d.2.2.2.2.1
def dY (d : MD) : MethodName := d.2.2.2.2.2
def LV (g : GE) (lsr : Array Slot) (nL : Nat) (ls : List (Option Value)) : Prop := lsr.size = nL ∧ lv_wf lsr ∧ ∀ (i : Nat) (v : Value), ls[i]? = some (some v) → lsr[i]? = some (.val (cv g v))
def LO (g : GE) (locs : List Loc) : Prop := ∀ q ∈ locs, gB g ≤ q.base
def CX (g : GE) (d : MD) (p : Program) (R : Room) (s : State) (m : MethodId) (args : Array Value) (c : Code) (cells slots : Nat) : Prop :=
  p.tables.exec = Jvm.exec ∧ c.code = dB d ∧ c.maxLocals = dN d ∧ s.vm.findClass (dO d) = some m.cls ∧ (∀ w ∈ lwg, w.before args s = true) ∧ FZ g s ∧ dF d ≤ R.frames ∧ dW d ≤ R.locals ∧ cells ≤ R.cells ∧ slots ≤ R.slots
/-- an answer as its type keeps it -/
def RV (d : MD) : Option Value → Prop
  | none => dR d = none
  | some (.int v) => ∃ ty, dR d = some ty ∧ narrow ty (.int v) = .int v
  | some (.long _) => dR d = some .long
  | _ => False
def RD (d : MD) (pc : Nat) : Option Value → Prop
  | none => decode (dB d) pc = .ok (.return_, 1)
  | some (.int _) => decode (dB d) pc = .ok (.ireturn, 1)
  | some (.long _) => decode (dB d) pc = .ok (.lreturn, 1)
  | _ => False
/-- THE SMALL MACHINE: from pc, locals ls, stack st, heap h, the method comes to an end with Q -/
def Wm (g : GE) (d : MD) (pc : Nat) (ls : List (Option Value)) (st : List Value) (h : HP) (Q : Option Value → HP → Prop) : Prop :=
  ∀ (p : Program) (e : Env) (R : Room) (s : State) (m : MethodId) (args : Array Value) (below : List Frame) (meth : Method) (c : Code) (cells slots : Nat) (Qf : State → Prop),
    CX g d p R s m args c cells slots →
    (∀ (pc' : Nat) (lsr' : Array Slot) (H' : Heap) (locs' : List Loc) (r : Option Value) (h' : HP), Q r h' → Rep g h' H' → LO g locs' → RV d r → RD d pc' r → W p (gL g) e R s m args below meth c H' locs' cells slots Qf (F0 m pc' lsr' (r.toList.map (cv g)))) →
    ∀ (H : Heap) (locs : List Loc) (lsr : Array Slot), Rep g h H → LO g locs → LV g lsr (dN d) ls → W p (gL g) e R s m args below meth c H locs cells slots Qf (F0 m pc lsr (st.map (cv g)))
/-- locals as the kit lists them -/
def lm (g : GE) (ls : List (Option Value)) : List (Nat × Value) := ls.zipIdx.filterMap (fun q => q.1.map (fun v => (q.2, cv g v)))
theorem lm_mem {g : GE} {ls : List (Option Value)} {i : Nat} {w : Value} : (i, w) ∈ lm g ls ↔ ∃ v, ls[i]? = some (some v) ∧ w = cv g v := by
  simp only [lm, List.mem_filterMap, Prod.exists, Option.map_eq_some_iff, Prod.mk.injEq]
  constructor
  · rintro ⟨a, b, h1, v, rfl, rfl, rfl⟩
    have := List.mem_zipIdx_iff_getElem?.mp h1
    exact ⟨v, this, rfl⟩
  · rintro ⟨v, h1, rfl⟩
    exact ⟨some v, i, List.mem_zipIdx_iff_getElem?.mpr h1, v, rfl, rfl, rfl⟩
theorem LV.has {g : GE} {lsr : Array Slot} {nL : Nat} {ls : List (Option Value)} (h : LV g lsr nL ls) : lv_has lsr nL (lm g ls) := by
  refine ⟨h.1, h.2.1, fun q hq => ?_⟩
  obtain ⟨i, w⟩ := q
  obtain ⟨v, h1, rfl⟩ := lm_mem.mp hq
  exact h.2.2 i v h1
theorem cv_cat (g : GE) (v : Value) : (cv g v).category = v.category := by cases v <;> rfl
/-- storing a value of one place -/
theorem LV.put1 {g : GE} {lsr : Array Slot} {nL : Nat} {ls : List (Option Value)} {i : Nat} {v : Value} (hl : lv_has lsr nL ((i, cv g v) :: (lm g ls).filter (fun q => !(q.1 == i) && !(q.1 + 1 == i && q.2.category == 2)))) (hn : ∀ (j : Nat) (w : Value), j + 1 = i → ls[j]? = some (some w) → w.category = 1) : LV g lsr nL (ls.set i (some v)) := by
  refine ⟨hl.1, hl.2.1, fun j w hj => ?_⟩
  by_cases e : j = i
  · subst e
    have h1 := List.getElem?_eq_some_iff.mp hj
    obtain ⟨h2, h3⟩ := h1
    rw [List.getElem_set_self] at h3
    cases h3
    exact hl.2.2 (j, cv g v) List.mem_cons_self
  · rw [List.getElem?_set_ne (fun q => e q.symm)] at hj
    refine hl.2.2 (j, cv g w) (List.mem_cons_of_mem _ (List.mem_filter.mpr ⟨lm_mem.mpr ⟨w, hj, rfl⟩, ?_⟩))
    simp only [Bool.and_eq_true, Bool.not_eq_true', beq_eq_false_iff_ne, ne_eq, Bool.and_eq_false_iff]
    refine ⟨e, ?_⟩
    by_cases e2 : j + 1 = i
    · right
      show ¬ (cv g w).category = 2
      rw [cv_cat, hn j w e2 hj]
      decide
    · exact Or.inl e2
/-- storing a value of two places -/
theorem LV.put2 {g : GE} {lsr : Array Slot} {nL : Nat} {ls : List (Option Value)} {i : Nat} {v : Value} (hl : lv_has lsr nL ((i, cv g v) :: (lm g ls).filter (fun q => !(q.1 == i) && (!(q.1 == i + 1) && !(q.1 + 1 == i && q.2.category == 2))))) (hn : ∀ (j : Nat) (w : Value), j + 1 = i → ls[j]? = some (some w) → w.category = 1) : LV g lsr nL ((ls.set i (some v)).set (i + 1) none) := by
  refine ⟨hl.1, hl.2.1, fun j w hj => ?_⟩
  by_cases e1 : j = i + 1
  · subst e1
    have h1 := List.getElem?_eq_some_iff.mp hj
    obtain ⟨h2, h3⟩ := h1
    rw [List.getElem_set_self] at h3
    cases h3
  · rw [List.getElem?_set_ne (fun q => e1 q.symm)] at hj
    by_cases e : j = i
    · subst e
      have h1 := List.getElem?_eq_some_iff.mp hj
      obtain ⟨h2, h3⟩ := h1
      rw [List.getElem_set_self] at h3
      cases h3
      exact hl.2.2 (j, cv g v) List.mem_cons_self
    · rw [List.getElem?_set_ne (fun q => e q.symm)] at hj
      refine hl.2.2 (j, cv g w) (List.mem_cons_of_mem _ (List.mem_filter.mpr ⟨lm_mem.mpr ⟨w, hj, rfl⟩, ?_⟩))
      simp only [Bool.and_eq_true, Bool.not_eq_true', beq_eq_false_iff_ne, ne_eq, Bool.and_eq_false_iff]
      refine ⟨e, e1, ?_⟩
      by_cases e2 : j + 1 = i
      · right
        show ¬ (cv g w).category = 2
        rw [cv_cat, hn j w e2 hj]
        decide
      · exact Or.inl e2
/-- one step: what the machine does, said once for all -/
theorem wm_of {g : GE} {d : MD} {pc pc' : Nat} {ls ls' : List (Option Value)} {st st' : List Value} {h h' : HP} {Q : Option Value → HP → Prop}
    (step : ∀ (p : Program) (e : Env) (R : Room) (s : State) (m : MethodId) (args : Array Value) (below : List Frame) (meth : Method) (c : Code) (cells slots : Nat) (Qf : State → Prop),
      CX g d p R s m args c cells slots → ∀ (H : Heap) (locs : List Loc) (lsr : Array Slot), Rep g h H → LO g locs → LV g lsr (dN d) ls →
      (∀ (H' : Heap) (locs' : List Loc) (lsr' : Array Slot), Rep g h' H' → LO g locs' → LV g lsr' (dN d) ls' → W p (gL g) e R s m args below meth c H' locs' cells slots Qf (F0 m pc' lsr' (st'.map (cv g)))) →
      W p (gL g) e R s m args below meth c H locs cells slots Qf (F0 m pc lsr (st.map (cv g))))
    (k : Wm g d pc' ls' st' h' Q) : Wm g d pc ls st h Q := by
  intro p e R s m args below meth c cells slots Qf X RET H locs lsr hR hL hV
  exact step p e R s m args below meth c cells slots Qf X H locs lsr hR hL hV (fun H' locs' lsr' r1 r2 r3 => k p e R s m args below meth c cells slots Qf X RET H' locs' lsr' r1 r2 r3)
/-- fewer locals known -/
theorem wm_drop {g : GE} {d : MD} {pc : Nat} {ls : List (Option Value)} {st : List Value} {h : HP} {Q : Option Value → HP → Prop} (ls' : List (Option Value)) (hs : ∀ (i : Nat) (v : Value), ls'[i]? = some (some v) → ls[i]? = some (some v)) (k : Wm g d pc ls' st h Q) : Wm g d pc ls st h Q := by
  intro p e R s m args below meth c cells slots Qf X RET H locs lsr hR hL hV
  exact k p e R s m args below meth c cells slots Qf X RET H locs lsr hR hL ⟨hV.1, hV.2.1, fun i v q => hV.2.2 i v (hs i v q)⟩
theorem wm_mono {g : GE} {d : MD} {pc : Nat} {ls : List (Option Value)} {st : List Value} {h : HP} {Q Q' : Option Value → HP → Prop} (k : Wm g d pc ls st h Q) (hq : ∀ r h', Q r h' → Q' r h') : Wm g d pc ls st h Q' := by
  intro p e R s m args below meth c cells slots Qf X RET H locs lsr hR hL hV
  exact k p e R s m args below meth c cells slots Qf X (fun pc' lsr' H' locs' r h' q => RET pc' lsr' H' locs' r h' (hq r h' q)) H locs lsr hR hL hV
/-- a return -/
theorem wm_ret {g : GE} {d : MD} {pc : Nat} {ls : List (Option Value)} {h : HP} {Q : Option Value → HP → Prop} (r : Option Value) (hd : RD d pc r) (hv : RV d r) (hq : Q r h) : Wm g d pc ls r.toList h Q := by
  intro p e R s m args below meth c cells slots Qf X RET H locs lsr hR hL hV
  exact RET pc lsr H locs r h hq hR hL hv hd
end
section
theorem wm_iadd {g : GE} {d : MD} {pc : Nat} {ls : List (Option Value)} {st : List Value} {h : HP} {Q : Option Value → HP → Prop} {x y : Int32} (pc' : Nat) (hd : decode (dB d) pc = .ok (.iadd, 1)) (hp : pc + 1 = pc') (k : Wm g d pc' ls (.int (x + y) :: st) h Q) : Wm g d pc ls (.int y :: .int x :: st) h Q := by
  subst hp
  exact wm_of (fun p e R s m args below meth c cells slots Qf X H locs lsr hR hL hV K => lv_iadd X.1 X.2.1 hd  (K H locs lsr hR hL hV)) k
theorem wm_isub {g : GE} {d : MD} {pc : Nat} {ls : List (Option Value)} {st : List Value} {h : HP} {Q : Option Value → HP → Prop} {x y : Int32} (pc' : Nat) (hd : decode (dB d) pc = .ok (.isub, 1)) (hp : pc + 1 = pc') (k : Wm g d pc' ls (.int (x - y) :: st) h Q) : Wm g d pc ls (.int y :: .int x :: st) h Q := by
  subst hp
  exact wm_of (fun p e R s m args below meth c cells slots Qf X H locs lsr hR hL hV K => lv_isub X.1 X.2.1 hd  (K H locs lsr hR hL hV)) k
theorem wm_imul {g : GE} {d : MD} {pc : Nat} {ls : List (Option Value)} {st : List Value} {h : HP} {Q : Option Value → HP → Prop} {x y : Int32} (pc' : Nat) (hd : decode (dB d) pc = .ok (.imul, 1)) (hp : pc + 1 = pc') (k : Wm g d pc' ls (.int (x * y) :: st) h Q) : Wm g d pc ls (.int y :: .int x :: st) h Q := by
  subst hp
  exact wm_of (fun p e R s m args below meth c cells slots Qf X H locs lsr hR hL hV K => lv_imul X.1 X.2.1 hd  (K H locs lsr hR hL hV)) k
theorem wm_iand {g : GE} {d : MD} {pc : Nat} {ls : List (Option Value)} {st : List Value} {h : HP} {Q : Option Value → HP → Prop} {x y : Int32} (pc' : Nat) (hd : decode (dB d) pc = .ok (.iand, 1)) (hp : pc + 1 = pc') (k : Wm g d pc' ls (.int (x &&& y) :: st) h Q) : Wm g d pc ls (.int y :: .int x :: st) h Q := by
  subst hp
  exact wm_of (fun p e R s m args below meth c cells slots Qf X H locs lsr hR hL hV K => lv_iand X.1 X.2.1 hd  (K H locs lsr hR hL hV)) k
theorem wm_ior {g : GE} {d : MD} {pc : Nat} {ls : List (Option Value)} {st : List Value} {h : HP} {Q : Option Value → HP → Prop} {x y : Int32} (pc' : Nat) (hd : decode (dB d) pc = .ok (.ior, 1)) (hp : pc + 1 = pc') (k : Wm g d pc' ls (.int (x ||| y) :: st) h Q) : Wm g d pc ls (.int y :: .int x :: st) h Q := by
  subst hp
  exact wm_of (fun p e R s m args below meth c cells slots Qf X H locs lsr hR hL hV K => lv_ior X.1 X.2.1 hd  (K H locs lsr hR hL hV)) k
theorem wm_ixor {g : GE} {d : MD} {pc : Nat} {ls : List (Option Value)} {st : List Value} {h : HP} {Q : Option Value → HP → Prop} {x y : Int32} (pc' : Nat) (hd : decode (dB d) pc = .ok (.ixor, 1)) (hp : pc + 1 = pc') (k : Wm g d pc' ls (.int (x ^^^ y) :: st) h Q) : Wm g d pc ls (.int y :: .int x :: st) h Q := by
  subst hp
  exact wm_of (fun p e R s m args below meth c cells slots Qf X H locs lsr hR hL hV K => lv_ixor X.1 X.2.1 hd  (K H locs lsr hR hL hV)) k
theorem wm_ishl {g : GE} {d : MD} {pc : Nat} {ls : List (Option Value)} {st : List Value} {h : HP} {Q : Option Value → HP → Prop} {x y : Int32} (pc' : Nat) (hd : decode (dB d) pc = .ok (.ishl, 1)) (hp : pc + 1 = pc') (k : Wm g d pc' ls (.int (x <<< (y &&& 31)) :: st) h Q) : Wm g d pc ls (.int y :: .int x :: st) h Q := by
  subst hp
  exact wm_of (fun p e R s m args below meth c cells slots Qf X H locs lsr hR hL hV K => lv_ishl X.1 X.2.1 hd  (K H locs lsr hR hL hV)) k
theorem wm_ishr {g : GE} {d : MD} {pc : Nat} {ls : List (Option Value)} {st : List Value} {h : HP} {Q : Option Value → HP → Prop} {x y : Int32} (pc' : Nat) (hd : decode (dB d) pc = .ok (.ishr, 1)) (hp : pc + 1 = pc') (k : Wm g d pc' ls (.int (x >>> (y &&& 31)) :: st) h Q) : Wm g d pc ls (.int y :: .int x :: st) h Q := by
  subst hp
  exact wm_of (fun p e R s m args below meth c cells slots Qf X H locs lsr hR hL hV K => lv_ishr X.1 X.2.1 hd  (K H locs lsr hR hL hV)) k
theorem wm_idiv {g : GE} {d : MD} {pc : Nat} {ls : List (Option Value)} {st : List Value} {h : HP} {Q : Option Value → HP → Prop} {x y : Int32} (pc' : Nat) (hd : decode (dB d) pc = .ok (.idiv, 1)) (hp : pc + 1 = pc') (hne : ¬ y = 0) (k : Wm g d pc' ls (.int (x / y) :: st) h Q) : Wm g d pc ls (.int y :: .int x :: st) h Q := by
  subst hp
  exact wm_of (fun p e R s m args below meth c cells slots Qf X H locs lsr hR hL hV K => lv_idiv X.1 X.2.1 hd hne (K H locs lsr hR hL hV)) k
theorem wm_irem {g : GE} {d : MD} {pc : Nat} {ls : List (Option Value)} {st : List Value} {h : HP} {Q : Option Value → HP → Prop} {x y : Int32} (pc' : Nat) (hd : decode (dB d) pc = .ok (.irem, 1)) (hp : pc + 1 = pc') (hne : ¬ y = 0) (k : Wm g d pc' ls (.int (x - x / y * y) :: st) h Q) : Wm g d pc ls (.int y :: .int x :: st) h Q := by
  subst hp
  exact wm_of (fun p e R s m args below meth c cells slots Qf X H locs lsr hR hL hV K => lv_irem X.1 X.2.1 hd hne (K H locs lsr hR hL hV)) k
theorem wm_ineg {g : GE} {d : MD} {pc : Nat} {ls : List (Option Value)} {st : List Value} {h : HP} {Q : Option Value → HP → Prop} {x : Int32} (pc' : Nat) (hd : decode (dB d) pc = .ok (.ineg, 1)) (hp : pc + 1 = pc') (k : Wm g d pc' ls (.int (-x) :: st) h Q) : Wm g d pc ls (.int x :: st) h Q := by
  subst hp
  exact wm_of (fun p e R s m args below meth c cells slots Qf X H locs lsr hR hL hV K => lv_ineg X.1 X.2.1 hd  (K H locs lsr hR hL hV)) k
theorem wm_ladd {g : GE} {d : MD} {pc : Nat} {ls : List (Option Value)} {st : List Value} {h : HP} {Q : Option Value → HP → Prop} {x y : Int64} (pc' : Nat) (hd : decode (dB d) pc = .ok (.ladd, 1)) (hp : pc + 1 = pc') (k : Wm g d pc' ls (.long (x + y) :: st) h Q) : Wm g d pc ls (.long y :: .long x :: st) h Q := by
  subst hp
  exact wm_of (fun p e R s m args below meth c cells slots Qf X H locs lsr hR hL hV K => lv_ladd X.1 X.2.1 hd  (K H locs lsr hR hL hV)) k
theorem wm_lsub {g : GE} {d : MD} {pc : Nat} {ls : List (Option Value)} {st : List Value} {h : HP} {Q : Option Value → HP → Prop} {x y : Int64} (pc' : Nat) (hd : decode (dB d) pc = .ok (.lsub, 1)) (hp : pc + 1 = pc') (k : Wm g d pc' ls (.long (x - y) :: st) h Q) : Wm g d pc ls (.long y :: .long x :: st) h Q := by
  subst hp
  exact wm_of (fun p e R s m args below meth c cells slots Qf X H locs lsr hR hL hV K => lv_lsub X.1 X.2.1 hd  (K H locs lsr hR hL hV)) k
theorem wm_lmul {g : GE} {d : MD} {pc : Nat} {ls : List (Option Value)} {st : List Value} {h : HP} {Q : Option Value → HP → Prop} {x y : Int64} (pc' : Nat) (hd : decode (dB d) pc = .ok (.lmul, 1)) (hp : pc + 1 = pc') (k : Wm g d pc' ls (.long (x * y) :: st) h Q) : Wm g d pc ls (.long y :: .long x :: st) h Q := by
  subst hp
  exact wm_of (fun p e R s m args below meth c cells slots Qf X H locs lsr hR hL hV K => lv_lmul X.1 X.2.1 hd  (K H locs lsr hR hL hV)) k
theorem wm_land {g : GE} {d : MD} {pc : Nat} {ls : List (Option Value)} {st : List Value} {h : HP} {Q : Option Value → HP → Prop} {x y : Int64} (pc' : Nat) (hd : decode (dB d) pc = .ok (.land, 1)) (hp : pc + 1 = pc') (k : Wm g d pc' ls (.long (x &&& y) :: st) h Q) : Wm g d pc ls (.long y :: .long x :: st) h Q := by
  subst hp
  exact wm_of (fun p e R s m args below meth c cells slots Qf X H locs lsr hR hL hV K => lv_land X.1 X.2.1 hd  (K H locs lsr hR hL hV)) k
theorem wm_lor {g : GE} {d : MD} {pc : Nat} {ls : List (Option Value)} {st : List Value} {h : HP} {Q : Option Value → HP → Prop} {x y : Int64} (pc' : Nat) (hd : decode (dB d) pc = .ok (.lor, 1)) (hp : pc + 1 = pc') (k : Wm g d pc' ls (.long (x ||| y) :: st) h Q) : Wm g d pc ls (.long y :: .long x :: st) h Q := by
  subst hp
  exact wm_of (fun p e R s m args below meth c cells slots Qf X H locs lsr hR hL hV K => lv_lor X.1 X.2.1 hd  (K H locs lsr hR hL hV)) k
theorem wm_ldiv {g : GE} {d : MD} {pc : Nat} {ls : List (Option Value)} {st : List Value} {h : HP} {Q : Option Value → HP → Prop} {x y : Int64} (pc' : Nat) (hd : decode (dB d) pc = .ok (.ldiv, 1)) (hp : pc + 1 = pc') (hne : ¬ y = 0) (k : Wm g d pc' ls (.long (x / y) :: st) h Q) : Wm g d pc ls (.long y :: .long x :: st) h Q := by
  subst hp
  exact wm_of (fun p e R s m args below meth c cells slots Qf X H locs lsr hR hL hV K => lv_ldiv X.1 X.2.1 hd hne (K H locs lsr hR hL hV)) k
theorem wm_lshl {g : GE} {d : MD} {pc : Nat} {ls : List (Option Value)} {st : List Value} {h : HP} {Q : Option Value → HP → Prop} {x : Int64} {y : Int32} (pc' : Nat) (hd : decode (dB d) pc = .ok (.lshl, 1)) (hp : pc + 1 = pc') (k : Wm g d pc' ls (.long (x <<< (y.toInt64 &&& 63)) :: st) h Q) : Wm g d pc ls (.int y :: .long x :: st) h Q := by
  subst hp
  exact wm_of (fun p e R s m args below meth c cells slots Qf X H locs lsr hR hL hV K => lv_lshl X.1 X.2.1 hd rfl (K H locs lsr hR hL hV)) k
theorem wm_lcmp {g : GE} {d : MD} {pc : Nat} {ls : List (Option Value)} {st : List Value} {h : HP} {Q : Option Value → HP → Prop} {x y : Int64} (pc' : Nat) (hd : decode (dB d) pc = .ok (.lcmp, 1)) (hp : pc + 1 = pc') (k : Wm g d pc' ls (.int (lg_cmp x y) :: st) h Q) : Wm g d pc ls (.long y :: .long x :: st) h Q := by
  subst hp
  exact wm_of (fun p e R s m args below meth c cells slots Qf X H locs lsr hR hL hV K => W.lcmp X.1 X.2.1 hd  (K H locs lsr hR hL hV)) k
theorem wm_i2l {g : GE} {d : MD} {pc : Nat} {ls : List (Option Value)} {st : List Value} {h : HP} {Q : Option Value → HP → Prop} {x : Int32} (pc' : Nat) (hd : decode (dB d) pc = .ok (.i2l, 1)) (hp : pc + 1 = pc') (k : Wm g d pc' ls (.long x.toInt64 :: st) h Q) : Wm g d pc ls (.int x :: st) h Q := by
  subst hp
  exact wm_of (fun p e R s m args below meth c cells slots Qf X H locs lsr hR hL hV K => lv_i2l X.1 X.2.1 hd rfl (K H locs lsr hR hL hV)) k
theorem wm_l2i {g : GE} {d : MD} {pc : Nat} {ls : List (Option Value)} {st : List Value} {h : HP} {Q : Option Value → HP → Prop} {x : Int64} (pc' : Nat) (hd : decode (dB d) pc = .ok (.l2i, 1)) (hp : pc + 1 = pc') (k : Wm g d pc' ls (.int x.toInt32 :: st) h Q) : Wm g d pc ls (.long x :: st) h Q := by
  subst hp
  exact wm_of (fun p e R s m args below meth c cells slots Qf X H locs lsr hR hL hV K => lv_l2i X.1 X.2.1 hd rfl (K H locs lsr hR hL hV)) k
theorem wm_i2s {g : GE} {d : MD} {pc : Nat} {ls : List (Option Value)} {st : List Value} {h : HP} {Q : Option Value → HP → Prop} {x : Int32} (pc' : Nat) (hd : decode (dB d) pc = .ok (.i2s, 1)) (hp : pc + 1 = pc') (k : Wm g d pc' ls (.int x.toInt16.toInt32 :: st) h Q) : Wm g d pc ls (.int x :: st) h Q := by
  subst hp
  exact wm_of (fun p e R s m args below meth c cells slots Qf X H locs lsr hR hL hV K => lv_i2s X.1 X.2.1 hd rfl (K H locs lsr hR hL hV)) k
theorem wm_iconst {g : GE} {d : MD} {pc : Nat} {ls : List (Option Value)} {st : List Value} {h : HP} {Q : Option Value → HP → Prop}  {n : Int} (v : Int32) (pc' : Nat) (hd : decode (dB d) pc = .ok (.iconst n, 1)) (hp : pc + 1 = pc') (hv : Int32.ofInt n = v) (k : Wm g d pc' ls (.int v :: st) h Q) : Wm g d pc ls (st) h Q := by
  subst hp
  exact wm_of (fun p e R s m args below meth c cells slots Qf X H locs lsr hR hL hV K => lv_iconst X.1 X.2.1 hd hv (K H locs lsr hR hL hV)) k
theorem wm_bipush {g : GE} {d : MD} {pc : Nat} {ls : List (Option Value)} {st : List Value} {h : HP} {Q : Option Value → HP → Prop}  {n : Int} (v : Int32) (pc' : Nat) (hd : decode (dB d) pc = .ok (.bipush n, 2)) (hp : pc + 2 = pc') (hv : (Int8.ofInt n).toInt32 = v) (k : Wm g d pc' ls (.int v :: st) h Q) : Wm g d pc ls (st) h Q := by
  subst hp
  exact wm_of (fun p e R s m args below meth c cells slots Qf X H locs lsr hR hL hV K => lv_bipush X.1 X.2.1 hd hv (K H locs lsr hR hL hV)) k
theorem wm_sipush {g : GE} {d : MD} {pc : Nat} {ls : List (Option Value)} {st : List Value} {h : HP} {Q : Option Value → HP → Prop}  {n : Int} (v : Int32) (pc' : Nat) (hd : decode (dB d) pc = .ok (.sipush n, 3)) (hp : pc + 3 = pc') (hv : (Int16.ofInt n).toInt32 = v) (k : Wm g d pc' ls (.int v :: st) h Q) : Wm g d pc ls (st) h Q := by
  subst hp
  exact wm_of (fun p e R s m args below meth c cells slots Qf X H locs lsr hR hL hV K => lv_sipush X.1 X.2.1 hd hv (K H locs lsr hR hL hV)) k
theorem wm_lconst {g : GE} {d : MD} {pc : Nat} {ls : List (Option Value)} {st : List Value} {h : HP} {Q : Option Value → HP → Prop}  {n : Fin 2} (v : Int64) (pc' : Nat) (hd : decode (dB d) pc = .ok (.lconst n, 1)) (hp : pc + 1 = pc') (hv : Int64.ofNat (n : Nat) = v) (k : Wm g d pc' ls (.long v :: st) h Q) : Wm g d pc ls (st) h Q := by
  subst hp
  exact wm_of (fun p e R s m args below meth c cells slots Qf X H locs lsr hR hL hV K => lv_lconst X.1 X.2.1 hd hv (K H locs lsr hR hL hV)) k
theorem wm_ldc {g : GE} {d : MD} {pc : Nat} {ls : List (Option Value)} {st : List Value} {h : HP} {Q : Option Value → HP → Prop} {i : Nat} (v : Int32) (pc' : Nat) (hc : Cond.constant (dO d) i v ∈ lwg) (hd : decode (dB d) pc = .ok (.ldc i, 2)) (hp : pc + 2 = pc') (k : Wm g d pc' ls (.int v :: st) h Q) : Wm g d pc ls st h Q := by
  subst hp
  exact wm_of (fun p e R s m args below meth c cells slots Qf X H locs lsr hR hL hV K => lv_ldc X.1 X.2.1 X.2.2.2.1 (X.2.2.2.2.1 _ hc) hd (K H locs lsr hR hL hV)) k
theorem wm_ldcw {g : GE} {d : MD} {pc : Nat} {ls : List (Option Value)} {st : List Value} {h : HP} {Q : Option Value → HP → Prop} {i : Nat} (v : Int32) (pc' : Nat) (hc : Cond.constant (dO d) i v ∈ lwg) (hd : decode (dB d) pc = .ok (.ldc_w i, 3)) (hp : pc + 3 = pc') (k : Wm g d pc' ls (.int v :: st) h Q) : Wm g d pc ls st h Q := by
  subst hp
  exact wm_of (fun p e R s m args below meth c cells slots Qf X H locs lsr hR hL hV K => lv_ldcw X.1 X.2.1 X.2.2.2.1 (X.2.2.2.2.1 _ hc) hd (K H locs lsr hR hL hV)) k
theorem wm_ldc2 {g : GE} {d : MD} {pc : Nat} {ls : List (Option Value)} {st : List Value} {h : HP} {Q : Option Value → HP → Prop} {i : Nat} (v : Int64) (pc' : Nat) (hc : Cond.constantLong (dO d) i v ∈ lwg) (hd : decode (dB d) pc = .ok (.ldc2_w i, 3)) (hp : pc + 3 = pc') (k : Wm g d pc' ls (.long v :: st) h Q) : Wm g d pc ls st h Q := by
  subst hp
  exact wm_of (fun p e R s m args below meth c cells slots Qf X H locs lsr hR hL hV K => lv_ldc2 X.1 X.2.1 X.2.2.2.1 (X.2.2.2.2.1 _ hc) hd (K H locs lsr hR hL hV)) k
theorem wm_dup {g : GE} {d : MD} {pc : Nat} {ls : List (Option Value)} {st : List Value} {h : HP} {Q : Option Value → HP → Prop} {v : Value} (pc' : Nat) (hd : decode (dB d) pc = .ok (.dup, 1)) (hp : pc + 1 = pc') (hv : v.category = 1) (k : Wm g d pc' ls (v :: v :: st) h Q) : Wm g d pc ls (v :: st) h Q := by
  subst hp
  exact wm_of (fun p e R s m args below meth c cells slots Qf X H locs lsr hR hL hV K => lv_dup X.1 X.2.1 hd (by rw [cv_cat]; exact hv) (K H locs lsr hR hL hV)) k
theorem wm_pop {g : GE} {d : MD} {pc : Nat} {ls : List (Option Value)} {st : List Value} {h : HP} {Q : Option Value → HP → Prop} {v : Value} (pc' : Nat) (hd : decode (dB d) pc = .ok (.pop, 1)) (hp : pc + 1 = pc') (hv : v.category = 1) (k : Wm g d pc' ls st h Q) : Wm g d pc ls (v :: st) h Q := by
  subst hp
  exact wm_of (fun p e R s m args below meth c cells slots Qf X H locs lsr hR hL hV K => lv_pop (va := cv g v) X.1 X.2.1 hd (by rw [cv_cat]; exact hv) (K H locs lsr hR hL hV)) k
theorem wm_dup2 {g : GE} {d : MD} {pc : Nat} {ls : List (Option Value)} {st : List Value} {h : HP} {Q : Option Value → HP → Prop} {v w : Value} (pc' : Nat) (hd : decode (dB d) pc = .ok (.dup2, 1)) (hp : pc + 1 = pc') (hv : v.category = 1) (hw : w.category = 1) (k : Wm g d pc' ls (v :: w :: v :: w :: st) h Q) : Wm g d pc ls (v :: w :: st) h Q := by
  subst hp
  exact wm_of (fun p e R s m args below meth c cells slots Qf X H locs lsr hR hL hV K => lv_dup2_11 X.1 X.2.1 hd (by rw [cv_cat]; exact hv) (by rw [cv_cat]; exact hw) (K H locs lsr hR hL hV)) k
theorem wm_dup2L {g : GE} {d : MD} {pc : Nat} {ls : List (Option Value)} {st : List Value} {h : HP} {Q : Option Value → HP → Prop} {v : Value} (pc' : Nat) (hd : decode (dB d) pc = .ok (.dup2, 1)) (hp : pc + 1 = pc') (hv : v.category = 2) (k : Wm g d pc' ls (v :: v :: st) h Q) : Wm g d pc ls (v :: st) h Q := by
  subst hp
  exact wm_of (fun p e R s m args below meth c cells slots Qf X H locs lsr hR hL hV K => lv_dup2_2 X.1 X.2.1 hd (by rw [cv_cat]; exact hv) (K H locs lsr hR hL hV)) k
theorem wm_iload {g : GE} {d : MD} {pc : Nat} {ls : List (Option Value)} {st : List Value} {h : HP} {Q : Option Value → HP → Prop} (i : Nat) {x : Int32} (pc' : Nat) (hd : decode (dB d) pc = .ok (.iload i, 2)) (hp : pc + 2 = pc') (hl : ls[i]? = some (some (.int x))) (k : Wm g d pc' ls (.int x :: st) h Q) : Wm g d pc ls st h Q := by
  subst hp
  exact wm_of (fun p e R s m args below meth c cells slots Qf X H locs lsr hR hL hV K => lv_iload X.1 X.2.1 hd (hV.2.2 i _ hl) (K H locs lsr hR hL hV)) k
theorem wm_iload_n {g : GE} {d : MD} {pc : Nat} {ls : List (Option Value)} {st : List Value} {h : HP} {Q : Option Value → HP → Prop} (i : Fin 4) {x : Int32} (pc' : Nat) (hd : decode (dB d) pc = .ok (.iload_n i, 1)) (hp : pc + 1 = pc') (hl : ls[(i : Nat)]? = some (some (.int x))) (k : Wm g d pc' ls (.int x :: st) h Q) : Wm g d pc ls st h Q := by
  subst hp
  exact wm_of (fun p e R s m args below meth c cells slots Qf X H locs lsr hR hL hV K => lv_iload_n X.1 X.2.1 hd rfl (hV.2.2 i _ hl) (K H locs lsr hR hL hV)) k
theorem wm_lload {g : GE} {d : MD} {pc : Nat} {ls : List (Option Value)} {st : List Value} {h : HP} {Q : Option Value → HP → Prop} (i : Nat) {x : Int64} (pc' : Nat) (hd : decode (dB d) pc = .ok (.lload i, 2)) (hp : pc + 2 = pc') (hl : ls[i]? = some (some (.long x))) (k : Wm g d pc' ls (.long x :: st) h Q) : Wm g d pc ls st h Q := by
  subst hp
  exact wm_of (fun p e R s m args below meth c cells slots Qf X H locs lsr hR hL hV K => lv_lload X.1 X.2.1 hd (hV.2.2 i _ hl) (K H locs lsr hR hL hV)) k
theorem wm_lload_n {g : GE} {d : MD} {pc : Nat} {ls : List (Option Value)} {st : List Value} {h : HP} {Q : Option Value → HP → Prop} (i : Fin 4) {x : Int64} (pc' : Nat) (hd : decode (dB d) pc = .ok (.lload_n i, 1)) (hp : pc + 1 = pc') (hl : ls[(i : Nat)]? = some (some (.long x))) (k : Wm g d pc' ls (.long x :: st) h Q) : Wm g d pc ls st h Q := by
  subst hp
  exact wm_of (fun p e R s m args below meth c cells slots Qf X H locs lsr hR hL hV K => lv_lload_n X.1 X.2.1 hd rfl (hV.2.2 i _ hl) (K H locs lsr hR hL hV)) k
theorem wm_aload {g : GE} {d : MD} {pc : Nat} {ls : List (Option Value)} {st : List Value} {h : HP} {Q : Option Value → HP → Prop} (i : Nat) {x : Nat} (pc' : Nat) (hd : decode (dB d) pc = .ok (.aload i, 2)) (hp : pc + 2 = pc') (hl : ls[i]? = some (some (.ref x))) (k : Wm g d pc' ls (.ref x :: st) h Q) : Wm g d pc ls st h Q := by
  subst hp
  exact wm_of (fun p e R s m args below meth c cells slots Qf X H locs lsr hR hL hV K => lv_aload X.1 X.2.1 hd (hV.2.2 i _ hl) (K H locs lsr hR hL hV)) k
theorem wm_aload_n {g : GE} {d : MD} {pc : Nat} {ls : List (Option Value)} {st : List Value} {h : HP} {Q : Option Value → HP → Prop} (i : Fin 4) {x : Nat} (pc' : Nat) (hd : decode (dB d) pc = .ok (.aload_n i, 1)) (hp : pc + 1 = pc') (hl : ls[(i : Nat)]? = some (some (.ref x))) (k : Wm g d pc' ls (.ref x :: st) h Q) : Wm g d pc ls st h Q := by
  subst hp
  exact wm_of (fun p e R s m args below meth c cells slots Qf X H locs lsr hR hL hV K => lv_aload_n X.1 X.2.1 hd rfl (hV.2.2 i _ hl) (K H locs lsr hR hL hV)) k
theorem wm_istore {g : GE} {d : MD} {pc : Nat} {ls : List (Option Value)} {st : List Value} {h : HP} {Q : Option Value → HP → Prop} (i : Nat) {x : Int32} (pc' : Nat) (ls' : List (Option Value)) (hd : decode (dB d) pc = .ok (.istore i, 2)) (hp : pc + 2 = pc') (hi : i < dN d) (hn : ∀ (j : Nat) (w : Value), j + 1 = i → ls[j]? = some (some w) → w.category = 1) (hs : ls.set i (some (.int x)) = ls') (k : Wm g d pc' ls' st h Q) : Wm g d pc ls (.int x :: st) h Q := by
  subst hp
  subst hs
  exact wm_of (fun p e R s m args below meth c cells slots Qf X H locs lsr hR hL hV K => lv_istore X.1 X.2.1 hd hV.has hi rfl (fun ls9 h9 => K H locs ls9 hR hL (LV.put1 (v := .int x) h9 hn))) k
theorem wm_istore_n {g : GE} {d : MD} {pc : Nat} {ls : List (Option Value)} {st : List Value} {h : HP} {Q : Option Value → HP → Prop} (i : Fin 4) {x : Int32} (pc' : Nat) (ls' : List (Option Value)) (hd : decode (dB d) pc = .ok (.istore_n i, 1)) (hp : pc + 1 = pc') (hi : (i : Nat) < dN d) (hn : ∀ (j : Nat) (w : Value), j + 1 = (i : Nat) → ls[j]? = some (some w) → w.category = 1) (hs : ls.set (i : Nat) (some (.int x)) = ls') (k : Wm g d pc' ls' st h Q) : Wm g d pc ls (.int x :: st) h Q := by
  subst hp
  subst hs
  exact wm_of (fun p e R s m args below meth c cells slots Qf X H locs lsr hR hL hV K => lv_istore_n X.1 X.2.1 hd rfl hV.has hi rfl (fun ls9 h9 => K H locs ls9 hR hL (LV.put1 (v := .int x) h9 hn))) k
theorem wm_astore {g : GE} {d : MD} {pc : Nat} {ls : List (Option Value)} {st : List Value} {h : HP} {Q : Option Value → HP → Prop} (i : Nat) {x : Nat} (pc' : Nat) (ls' : List (Option Value)) (hd : decode (dB d) pc = .ok (.astore i, 2)) (hp : pc + 2 = pc') (hi : i < dN d) (hn : ∀ (j : Nat) (w : Value), j + 1 = i → ls[j]? = some (some w) → w.category = 1) (hs : ls.set i (some (.ref x)) = ls') (k : Wm g d pc' ls' st h Q) : Wm g d pc ls (.ref x :: st) h Q := by
  subst hp
  subst hs
  exact wm_of (fun p e R s m args below meth c cells slots Qf X H locs lsr hR hL hV K => lv_astore X.1 X.2.1 hd hV.has hi rfl (fun ls9 h9 => K H locs ls9 hR hL (LV.put1 (v := .ref x) h9 hn))) k
theorem wm_astore_n {g : GE} {d : MD} {pc : Nat} {ls : List (Option Value)} {st : List Value} {h : HP} {Q : Option Value → HP → Prop} (i : Fin 4) {x : Nat} (pc' : Nat) (ls' : List (Option Value)) (hd : decode (dB d) pc = .ok (.astore_n i, 1)) (hp : pc + 1 = pc') (hi : (i : Nat) < dN d) (hn : ∀ (j : Nat) (w : Value), j + 1 = (i : Nat) → ls[j]? = some (some w) → w.category = 1) (hs : ls.set (i : Nat) (some (.ref x)) = ls') (k : Wm g d pc' ls' st h Q) : Wm g d pc ls (.ref x :: st) h Q := by
  subst hp
  subst hs
  exact wm_of (fun p e R s m args below meth c cells slots Qf X H locs lsr hR hL hV K => lv_astore_n X.1 X.2.1 hd rfl hV.has hi rfl (fun ls9 h9 => K H locs ls9 hR hL (LV.put1 (v := .ref x) h9 hn))) k
theorem wm_lstore {g : GE} {d : MD} {pc : Nat} {ls : List (Option Value)} {st : List Value} {h : HP} {Q : Option Value → HP → Prop} (i : Nat) {x : Int64} (pc' : Nat) (ls' : List (Option Value)) (hd : decode (dB d) pc = .ok (.lstore i, 2)) (hp : pc + 2 = pc') (hi : i + 1 < dN d) (hn : ∀ (j : Nat) (w : Value), j + 1 = i → ls[j]? = some (some w) → w.category = 1) (hs : (ls.set i (some (.long x))).set (i + 1) none = ls') (k : Wm g d pc' ls' st h Q) : Wm g d pc ls (.long x :: st) h Q := by
  subst hp
  subst hs
  exact wm_of (fun p e R s m args below meth c cells slots Qf X H locs lsr hR hL hV K => lv_lstore X.1 X.2.1 hd hV.has hi rfl (fun ls9 h9 => K H locs ls9 hR hL (LV.put2 (v := .long x) h9 hn))) k
theorem wm_lstore_n {g : GE} {d : MD} {pc : Nat} {ls : List (Option Value)} {st : List Value} {h : HP} {Q : Option Value → HP → Prop} (i : Fin 4) {x : Int64} (pc' : Nat) (ls' : List (Option Value)) (hd : decode (dB d) pc = .ok (.lstore_n i, 1)) (hp : pc + 1 = pc') (hi : (i : Nat) + 1 < dN d) (hn : ∀ (j : Nat) (w : Value), j + 1 = (i : Nat) → ls[j]? = some (some w) → w.category = 1) (hs : (ls.set (i : Nat) (some (.long x))).set ((i : Nat) + 1) none = ls') (k : Wm g d pc' ls' st h Q) : Wm g d pc ls (.long x :: st) h Q := by
  subst hp
  subst hs
  exact wm_of (fun p e R s m args below meth c cells slots Qf X H locs lsr hR hL hV K => lv_lstore_n X.1 X.2.1 hd rfl hV.has hi rfl (fun ls9 h9 => K H locs ls9 hR hL (LV.put2 (v := .long x) h9 hn))) k
theorem wm_iinc {g : GE} {d : MD} {pc : Nat} {ls : List (Option Value)} {st : List Value} {h : HP} {Q : Option Value → HP → Prop} (i : Nat) {n : Int} {x : Int32} (v : Int32) (pc' : Nat) (ls' : List (Option Value)) (hd : decode (dB d) pc = .ok (.iinc i n, 3)) (hp : pc + 3 = pc') (hi : i < dN d) (hl : ls[i]? = some (some (.int x))) (hv : x + Int32.ofInt n = v) (hn : ∀ (j : Nat) (w : Value), j + 1 = i → ls[j]? = some (some w) → w.category = 1) (hs : ls.set i (some (.int v)) = ls') (k : Wm g d pc' ls' st h Q) : Wm g d pc ls st h Q := by
  subst hp
  subst hs
  refine wm_of (fun p e R s m args below meth c cells slots Qf X H locs lsr hR hL hV K => ?_) k
  obtain ⟨q, hq⟩ := List.getElem?_of_mem (lm_mem (g := g).mpr ⟨_, hl, rfl⟩)
  exact lv_iinc X.1 X.2.1 hd hV.has hq hv hi rfl (fun ls9 h9 => K H locs ls9 hR hL (LV.put1 (v := .int v) h9 hn))
theorem wm_goto {g : GE} {d : MD} {pc : Nat} {ls : List (Option Value)} {st : List Value} {h : HP} {Q : Option Value → HP → Prop} {off : Int} (tgt : Nat) (hd : decode (dB d) pc = .ok (.goto off, 3)) (ht : (pc : Int) + off = (tgt : Int)) (k : Wm g d tgt ls st h Q) : Wm g d pc ls st h Q := by
  exact wm_of (fun p e R s m args below meth c cells slots Qf X H locs lsr hR hL hV K => lv_goto X.1 X.2.1 hd ht (K H locs lsr hR hL hV)) k
theorem wm_if_eq {g : GE} {d : MD} {pc : Nat} {ls : List (Option Value)} {st : List Value} {h : HP} {Q : Option Value → HP → Prop} {x : Int32} {off : Int} (pc' tgt : Nat) (hd : decode (dB d) pc = .ok (.ifCond .eq off, 3)) (ht : (pc : Int) + off = (tgt : Int)) (hp : pc + 3 = pc') (kt : x = 0 → Wm g d tgt ls st h Q) (kf : ¬ x = 0 → Wm g d pc' ls st h Q) : Wm g d pc ls (.int x :: st) h Q := by
  subst hp
  intro p e R s m args below meth c cells slots Qf X RET H locs lsr hR hL hV
  exact lv_if_eq X.1 X.2.1 hd ht (fun hx => kt hx p e R s m args below meth c cells slots Qf X RET H locs lsr hR hL hV) (fun hx => kf hx p e R s m args below meth c cells slots Qf X RET H locs lsr hR hL hV)
theorem wm_icmp_eq {g : GE} {d : MD} {pc : Nat} {ls : List (Option Value)} {st : List Value} {h : HP} {Q : Option Value → HP → Prop} {x y : Int32} {off : Int} (pc' tgt : Nat) (hd : decode (dB d) pc = .ok (.if_icmp .eq off, 3)) (ht : (pc : Int) + off = (tgt : Int)) (hp : pc + 3 = pc') (kt : x = y → Wm g d tgt ls st h Q) (kf : ¬ x = y → Wm g d pc' ls st h Q) : Wm g d pc ls (.int y :: .int x :: st) h Q := by
  subst hp
  intro p e R s m args below meth c cells slots Qf X RET H locs lsr hR hL hV
  exact lv_icmp_eq X.1 X.2.1 hd ht (fun hx => kt hx p e R s m args below meth c cells slots Qf X RET H locs lsr hR hL hV) (fun hx => kf hx p e R s m args below meth c cells slots Qf X RET H locs lsr hR hL hV)
theorem wm_if_ne {g : GE} {d : MD} {pc : Nat} {ls : List (Option Value)} {st : List Value} {h : HP} {Q : Option Value → HP → Prop} {x : Int32} {off : Int} (pc' tgt : Nat) (hd : decode (dB d) pc = .ok (.ifCond .ne off, 3)) (ht : (pc : Int) + off = (tgt : Int)) (hp : pc + 3 = pc') (kt : ¬ x = 0 → Wm g d tgt ls st h Q) (kf : x = 0 → Wm g d pc' ls st h Q) : Wm g d pc ls (.int x :: st) h Q := by
  subst hp
  intro p e R s m args below meth c cells slots Qf X RET H locs lsr hR hL hV
  exact lv_if_ne X.1 X.2.1 hd ht (fun hx => kt hx p e R s m args below meth c cells slots Qf X RET H locs lsr hR hL hV) (fun hx => kf hx p e R s m args below meth c cells slots Qf X RET H locs lsr hR hL hV)
theorem wm_icmp_ne {g : GE} {d : MD} {pc : Nat} {ls : List (Option Value)} {st : List Value} {h : HP} {Q : Option Value → HP → Prop} {x y : Int32} {off : Int} (pc' tgt : Nat) (hd : decode (dB d) pc = .ok (.if_icmp .ne off, 3)) (ht : (pc : Int) + off = (tgt : Int)) (hp : pc + 3 = pc') (kt : ¬ x = y → Wm g d tgt ls st h Q) (kf : x = y → Wm g d pc' ls st h Q) : Wm g d pc ls (.int y :: .int x :: st) h Q := by
  subst hp
  intro p e R s m args below meth c cells slots Qf X RET H locs lsr hR hL hV
  exact lv_icmp_ne X.1 X.2.1 hd ht (fun hx => kt hx p e R s m args below meth c cells slots Qf X RET H locs lsr hR hL hV) (fun hx => kf hx p e R s m args below meth c cells slots Qf X RET H locs lsr hR hL hV)
theorem wm_if_lt {g : GE} {d : MD} {pc : Nat} {ls : List (Option Value)} {st : List Value} {h : HP} {Q : Option Value → HP → Prop} {x : Int32} {off : Int} (pc' tgt : Nat) (hd : decode (dB d) pc = .ok (.ifCond .lt off, 3)) (ht : (pc : Int) + off = (tgt : Int)) (hp : pc + 3 = pc') (kt : x < 0 → Wm g d tgt ls st h Q) (kf : ¬ x < 0 → Wm g d pc' ls st h Q) : Wm g d pc ls (.int x :: st) h Q := by
  subst hp
  intro p e R s m args below meth c cells slots Qf X RET H locs lsr hR hL hV
  exact lv_if_lt X.1 X.2.1 hd ht (fun hx => kt hx p e R s m args below meth c cells slots Qf X RET H locs lsr hR hL hV) (fun hx => kf hx p e R s m args below meth c cells slots Qf X RET H locs lsr hR hL hV)
theorem wm_icmp_lt {g : GE} {d : MD} {pc : Nat} {ls : List (Option Value)} {st : List Value} {h : HP} {Q : Option Value → HP → Prop} {x y : Int32} {off : Int} (pc' tgt : Nat) (hd : decode (dB d) pc = .ok (.if_icmp .lt off, 3)) (ht : (pc : Int) + off = (tgt : Int)) (hp : pc + 3 = pc') (kt : x < y → Wm g d tgt ls st h Q) (kf : ¬ x < y → Wm g d pc' ls st h Q) : Wm g d pc ls (.int y :: .int x :: st) h Q := by
  subst hp
  intro p e R s m args below meth c cells slots Qf X RET H locs lsr hR hL hV
  exact lv_icmp_lt X.1 X.2.1 hd ht (fun hx => kt hx p e R s m args below meth c cells slots Qf X RET H locs lsr hR hL hV) (fun hx => kf hx p e R s m args below meth c cells slots Qf X RET H locs lsr hR hL hV)
theorem wm_if_ge {g : GE} {d : MD} {pc : Nat} {ls : List (Option Value)} {st : List Value} {h : HP} {Q : Option Value → HP → Prop} {x : Int32} {off : Int} (pc' tgt : Nat) (hd : decode (dB d) pc = .ok (.ifCond .ge off, 3)) (ht : (pc : Int) + off = (tgt : Int)) (hp : pc + 3 = pc') (kt : 0 ≤ x → Wm g d tgt ls st h Q) (kf : ¬ 0 ≤ x → Wm g d pc' ls st h Q) : Wm g d pc ls (.int x :: st) h Q := by
  subst hp
  intro p e R s m args below meth c cells slots Qf X RET H locs lsr hR hL hV
  exact lv_if_ge X.1 X.2.1 hd ht (fun hx => kt hx p e R s m args below meth c cells slots Qf X RET H locs lsr hR hL hV) (fun hx => kf hx p e R s m args below meth c cells slots Qf X RET H locs lsr hR hL hV)
theorem wm_icmp_ge {g : GE} {d : MD} {pc : Nat} {ls : List (Option Value)} {st : List Value} {h : HP} {Q : Option Value → HP → Prop} {x y : Int32} {off : Int} (pc' tgt : Nat) (hd : decode (dB d) pc = .ok (.if_icmp .ge off, 3)) (ht : (pc : Int) + off = (tgt : Int)) (hp : pc + 3 = pc') (kt : y ≤ x → Wm g d tgt ls st h Q) (kf : ¬ y ≤ x → Wm g d pc' ls st h Q) : Wm g d pc ls (.int y :: .int x :: st) h Q := by
  subst hp
  intro p e R s m args below meth c cells slots Qf X RET H locs lsr hR hL hV
  exact lv_icmp_ge X.1 X.2.1 hd ht (fun hx => kt hx p e R s m args below meth c cells slots Qf X RET H locs lsr hR hL hV) (fun hx => kf hx p e R s m args below meth c cells slots Qf X RET H locs lsr hR hL hV)
theorem wm_if_gt {g : GE} {d : MD} {pc : Nat} {ls : List (Option Value)} {st : List Value} {h : HP} {Q : Option Value → HP → Prop} {x : Int32} {off : Int} (pc' tgt : Nat) (hd : decode (dB d) pc = .ok (.ifCond .gt off, 3)) (ht : (pc : Int) + off = (tgt : Int)) (hp : pc + 3 = pc') (kt : 0 < x → Wm g d tgt ls st h Q) (kf : ¬ 0 < x → Wm g d pc' ls st h Q) : Wm g d pc ls (.int x :: st) h Q := by
  subst hp
  intro p e R s m args below meth c cells slots Qf X RET H locs lsr hR hL hV
  exact lv_if_gt X.1 X.2.1 hd ht (fun hx => kt hx p e R s m args below meth c cells slots Qf X RET H locs lsr hR hL hV) (fun hx => kf hx p e R s m args below meth c cells slots Qf X RET H locs lsr hR hL hV)
theorem wm_icmp_gt {g : GE} {d : MD} {pc : Nat} {ls : List (Option Value)} {st : List Value} {h : HP} {Q : Option Value → HP → Prop} {x y : Int32} {off : Int} (pc' tgt : Nat) (hd : decode (dB d) pc = .ok (.if_icmp .gt off, 3)) (ht : (pc : Int) + off = (tgt : Int)) (hp : pc + 3 = pc') (kt : y < x → Wm g d tgt ls st h Q) (kf : ¬ y < x → Wm g d pc' ls st h Q) : Wm g d pc ls (.int y :: .int x :: st) h Q := by
  subst hp
  intro p e R s m args below meth c cells slots Qf X RET H locs lsr hR hL hV
  exact lv_icmp_gt X.1 X.2.1 hd ht (fun hx => kt hx p e R s m args below meth c cells slots Qf X RET H locs lsr hR hL hV) (fun hx => kf hx p e R s m args below meth c cells slots Qf X RET H locs lsr hR hL hV)
theorem wm_if_le {g : GE} {d : MD} {pc : Nat} {ls : List (Option Value)} {st : List Value} {h : HP} {Q : Option Value → HP → Prop} {x : Int32} {off : Int} (pc' tgt : Nat) (hd : decode (dB d) pc = .ok (.ifCond .le off, 3)) (ht : (pc : Int) + off = (tgt : Int)) (hp : pc + 3 = pc') (kt : x ≤ 0 → Wm g d tgt ls st h Q) (kf : ¬ x ≤ 0 → Wm g d pc' ls st h Q) : Wm g d pc ls (.int x :: st) h Q := by
  subst hp
  intro p e R s m args below meth c cells slots Qf X RET H locs lsr hR hL hV
  exact lv_if_le X.1 X.2.1 hd ht (fun hx => kt hx p e R s m args below meth c cells slots Qf X RET H locs lsr hR hL hV) (fun hx => kf hx p e R s m args below meth c cells slots Qf X RET H locs lsr hR hL hV)
theorem wm_icmp_le {g : GE} {d : MD} {pc : Nat} {ls : List (Option Value)} {st : List Value} {h : HP} {Q : Option Value → HP → Prop} {x y : Int32} {off : Int} (pc' tgt : Nat) (hd : decode (dB d) pc = .ok (.if_icmp .le off, 3)) (ht : (pc : Int) + off = (tgt : Int)) (hp : pc + 3 = pc') (kt : x ≤ y → Wm g d tgt ls st h Q) (kf : ¬ x ≤ y → Wm g d pc' ls st h Q) : Wm g d pc ls (.int y :: .int x :: st) h Q := by
  subst hp
  intro p e R s m args below meth c cells slots Qf X RET H locs lsr hR hL hV
  exact lv_icmp_le X.1 X.2.1 hd ht (fun hx => kt hx p e R s m args below meth c cells slots Qf X RET H locs lsr hR hL hV) (fun hx => kf hx p e R s m args below meth c cells slots Qf X RET H locs lsr hR hL hV)
theorem wm_tin {g : GE} {d : MD} {pc : Nat} {ls : List (Option Value)} {st : List Value} {h : HP} {Q : Option Value → HP → Prop} {x : Int32} {dflt lo hi off : Int} {offs : Array Int} {len : Nat} (v : Int32) (tgt : Nat) (hx : x = v) (hd : decode (dB d) pc = .ok (.tableswitch dflt lo hi offs, len)) (h1 : ¬ v.toInt < lo) (h2 : ¬ hi < v.toInt) (ho : offs[(v.toInt - lo).toNat]? = some off) (ht : (pc : Int) + off = (tgt : Int)) (k : Wm g d tgt ls st h Q) : Wm g d pc ls (.int x :: st) h Q := by
  subst hx
  intro p e R s m args below meth c cells slots Qf X RET H locs lsr hR hL hV
  exact lv_tableIn X.1 X.2.1 hd h1 h2 ho ht (k p e R s m args below meth c cells slots Qf X RET H locs lsr hR hL hV)
theorem wm_tout {g : GE} {d : MD} {pc : Nat} {ls : List (Option Value)} {st : List Value} {h : HP} {Q : Option Value → HP → Prop} {x : Int32} {dflt lo hi : Int} {offs : Array Int} {len : Nat} (tgt : Nat) (hd : decode (dB d) pc = .ok (.tableswitch dflt lo hi offs, len)) (hx : x.toInt < lo ∨ hi < x.toInt) (ht : (pc : Int) + dflt = (tgt : Int)) (k : Wm g d tgt ls st h Q) : Wm g d pc ls (.int x :: st) h Q := by
  intro p e R s m args below meth c cells slots Qf X RET H locs lsr hR hL hV
  exact lv_tableOut X.1 X.2.1 hd hx ht (k p e R s m args below meth c cells slots Qf X RET H locs lsr hR hL hV)
theorem wm_look {g : GE} {d : MD} {pc : Nat} {ls : List (Option Value)} {st : List Value} {h : HP} {Q : Option Value → HP → Prop} {x : Int32} {dflt off : Int} {ps : Array (Int × Int)} {len : Nat} (tgt : Nat) (hd : decode (dB d) pc = .ok (.lookupswitch dflt ps, len)) (hq : (ps.toList.zip (ps.toList.drop 1)).all (fun (a, next) => a.1 < next.1) = true) (ho : Op.lookupswitch.offset ps.toList dflt x.toInt = off) (ht : (pc : Int) + off = (tgt : Int)) (k : Wm g d tgt ls st h Q) : Wm g d pc ls (.int x :: st) h Q := by
  intro p e R s m args below meth c cells slots Qf X RET H locs lsr hR hL hV
  exact lv_lookup X.1 X.2.1 hd hq ho ht (k p e R s m args below meth c cells slots Qf X RET H locs lsr hR hL hV)
theorem ne_toInt {x v : Int32} (n : Int) (hv : v.toInt = n) (hx : ¬ x = v) : ¬ x.toInt = n := fun q => hx (Int32.toInt_inj.mp (q.trans hv.symm))
end
section
/-! classes by their numbers: what the tables say of them -/
theorem mem_r {big : List Cond} (ws : List Cond) (ps : List Nat) (hp : ws = ps.filterMap (fun i => big[i]?)) (hg : ws.all goodWord = true) : ∀ w ∈ ws, w ∈ big.filter goodWord := by
  intro w hw
  have h1 := List.all_eq_true.mp hg w hw
  rw [hp] at hw
  obtain ⟨i, -, hi⟩ := List.mem_filterMap.mp hw
  exact List.mem_filter.mpr ⟨List.mem_of_getElem? hi, h1⟩
theorem in_X0 : ∀ w ∈ u_ws RX0 TX0 10, w ∈ lwg := mem_r _ [189, 191, 193, 195, 197, 199, 201, 203, 205, 207] (by decide +kernel) (by decide +kernel)
theorem in_X1 : ∀ w ∈ u_ws RX1 TX1 17, w ∈ lwg := mem_r _ [271, 273, 275, 277, 279, 281, 283, 285, 287, 289, 291, 293, 295, 297, 299, 301, 303] (by decide +kernel) (by decide +kernel)
theorem in_X2 : ∀ w ∈ u_ws RX2 TX2 3, w ∈ lwg := mem_r _ [381, 383, 385] (by decide +kernel) (by decide +kernel)
theorem in_X3 : ∀ w ∈ u_ws RX3 TX3 3, w ∈ lwg := mem_r _ [142, 144, 146] (by decide +kernel) (by decide +kernel)
theorem in_X4 : ∀ w ∈ u_ws RX4 TX4 7, w ∈ lwg := mem_r _ [321, 323, 325, 327, 329, 331, 333] (by decide +kernel) (by decide +kernel)
theorem in_X5 : ∀ w ∈ u_ws RX5 TX5 7, w ∈ lwg := mem_r _ [351, 353, 355, 357, 359, 361, 363] (by decide +kernel) (by decide +kernel)
theorem in_X6 : ∀ w ∈ u_ws RX6 TX6 6, w ∈ lwg := mem_r _ [235, 237, 239, 241, 243, 245] (by decide +kernel) (by decide +kernel)
theorem in_X7 : ∀ w ∈ u_ws RX7 TX7 9, w ∈ lwg := mem_r _ [398, 400, 402, 404, 406, 408, 410, 412, 414] (by decide +kernel) (by decide +kernel)
theorem in_X8 : ∀ w ∈ u_ws RX8 TX8 40, w ∈ lwg := mem_r _ [1131, 1133, 1135, 1137, 1139, 1141, 1143, 1145, 1147, 1149, 1151, 1153, 1155, 1157, 1159, 1161, 1163, 1165, 1167, 1169, 1171, 1173, 1175, 1177, 1179, 1181, 1183, 1185, 1187, 1189, 1191, 1193, 1195, 1197, 1199, 1201, 1203, 1205, 1207, 1209] (by decide +kernel) (by decide +kernel)
def tyC : Nat → Nat → FieldType
  | 0 => tyX0
  | 1 => tyX1
  | 2 => tyX2
  | 3 => tyX3
  | 4 => tyX4
  | 5 => tyX5
  | 6 => tyX6
  | 7 => tyX7
  | _ => tyX8
theorem cls_ok : ∀ (ci : Nat) (q : vw_C), vwCl[ci]? = some q → (∀ w ∈ u_ws q.1 q.2.1 q.2.2, w ∈ lwg) ∧ (∀ k, k < q.2.2 → parseFieldDescriptor (q.2.1 k).2.2.1 = some (tyC ci k)) ∧ (∀ a, a < q.2.2 → ∀ b, b < q.2.2 → a ≠ b → (q.2.1 a).2.1 ≠ (q.2.1 b).2.1)
  | 0, _, h => by cases h; exact ⟨in_X0, tyX0_ok, nmX0⟩
  | 1, _, h => by cases h; exact ⟨in_X1, tyX1_ok, nmX1⟩
  | 2, _, h => by cases h; exact ⟨in_X2, tyX2_ok, nmX2⟩
  | 3, _, h => by cases h; exact ⟨in_X3, tyX3_ok, nmX3⟩
  | 4, _, h => by cases h; exact ⟨in_X4, tyX4_ok, nmX4⟩
  | 5, _, h => by cases h; exact ⟨in_X5, tyX5_ok, nmX5⟩
  | 6, _, h => by cases h; exact ⟨in_X6, tyX6_ok, nmX6⟩
  | 7, _, h => by cases h; exact ⟨in_X7, tyX7_ok, nmX7⟩
  | 8, _, h => by cases h; exact ⟨in_X8, tyX8_ok, nmX8⟩
  | n + 9, _, h => by cases h
/-- an entry of a class's pool that names field k of class ci -/
def FL (own : String) (i ci k : Nat) : Prop := ∃ q : vw_C, vwCl[ci]? = some q ∧ k < q.2.2 ∧ Cond.fieldLink own i (q.2.1 k).1 (q.2.1 k).2.1 (q.2.1 k).2.2.1 ∈ lwg
theorem adr_lt {g : GE} {i : Nat} (h : i < 5000) : adr g i = gB g + i := if_pos h
theorem cellE_obj {g : GE} {h : HP} {i ci : Nat} (hk : kd i = ci) (hc : ci < 10) : cellE g h i = .inr (ci, objF g h i (fc ci)) := by
  unfold cellE
  rw [hk, if_pos hc]
theorem objF_get {g : GE} {h : HP} {i k c : Nat} {cs : List Nat} (hc : cs[k]? = some c) : (objF g h i cs)[k]? = some (fv g h i k c) := by
  simp [objF, List.getElem?_mapIdx, hc]
theorem vwCl_lt {ci : Nat} {q : vw_C} (h : vwCl[ci]? = some q) : ci < 9 := (List.getElem?_eq_some_iff.mp h).1
theorem gi_si {h : HP} {a k x j : Nat} {v : Int32} : gi (si h a k v) x j = if x = a ∧ j = k then v else gi h x j := rfl
theorem gl_si {h : HP} {a k x j : Nat} {v : Int32} : gl (si h a k v) x j = gl h x j := rfl
theorem gw_si {h : HP} {a k j : Nat} {v : Int32} : gw (si h a k v) j = gw h j := rfl
theorem gi_sl {h : HP} {a k x j : Nat} {v : Int64} : gi (sl h a k v) x j = gi h x j := rfl
theorem gl_sl {h : HP} {a k x j : Nat} {v : Int64} : gl (sl h a k v) x j = if x = a ∧ j = k then v else gl h x j := rfl
theorem gw_sl {h : HP} {a k j : Nat} {v : Int64} : gw (sl h a k v) j = gw h j := rfl
theorem gi_sw {h : HP} {k x j v : Nat} : gi (sw h k v) x j = gi h x j := rfl
theorem gl_sw {h : HP} {k x j v : Nat} : gl (sw h k v) x j = gl h x j := rfl
theorem gw_sw {h : HP} {k j v : Nat} : gw (sw h k v) j = if j = k then v else gw h j := rfl
theorem gi_cpi {h : HP} {a b sp dp n x j : Nat} : gi (cpi h a b sp dp n) x j = if x = b ∧ dp ≤ j ∧ j < dp + n then gi h a (sp + (j - dp)) else gi h x j := rfl
theorem gl_cpi {h : HP} {a b sp dp n x j : Nat} : gl (cpi h a b sp dp n) x j = gl h x j := rfl
theorem gw_cpi {h : HP} {a b sp dp n j : Nat} : gw (cpi h a b sp dp n) j = gw h j := rfl
theorem gi_cpl {h : HP} {a b sp dp n x j : Nat} : gi (cpl h a b sp dp n) x j = gi h x j := rfl
theorem gl_cpl {h : HP} {a b sp dp n x j : Nat} : gl (cpl h a b sp dp n) x j = if x = b ∧ dp ≤ j ∧ j < dp + n then gl h a (sp + (j - dp)) else gl h x j := rfl
theorem gw_cpl {h : HP} {a b sp dp n j : Nat} : gw (cpl h a b sp dp n) j = gw h j := rfl
/-- two heaps that agree on a cell -/
theorem cellE_congr {g : GE} {h h' : HP} {i : Nat} (h1 : ∀ j, gi h' i j = gi h i j) (h2 : ∀ j, gl h' i j = gl h i j) (h3 : kd i = 1 → gw h' 0 = gw h 0) (h4 : kd i = 4 → gw h' 1 = gw h 1) : cellE g h' i = cellE g h i := by
  have e1 : gi h' i = gi h i := funext h1
  have e2 : gl h' i = gl h i := funext h2
  unfold cellE
  rw [e1, e2]
  by_cases hk : kd i < 10
  · rw [if_pos hk, if_pos hk]
    congr 2
    unfold objF
    apply List.ext_getElem?
    intro k
    simp only [List.getElem?_mapIdx]
    cases hc : (fc (kd i))[k]? with
    | none => rfl
    | some c =>
      simp only [Option.map_some]
      congr 1
      match c, hc with
      | 0, _ => show Value.int (gi h' i k) = Value.int (gi h i k); rw [h1]
      | 1, hc =>
        have hz : kd i = 1 := by
          have : ∀ n, n < 10 → ∀ m, m < 40 → (fc n)[m]? = some 1 → n = 1 := by decide +kernel
          refine this _ hk k ?_ hc
          have := (List.getElem?_eq_some_iff.mp hc).1
          have h40 : ∀ n, n < 10 → (fc n).length ≤ 40 := by decide +kernel
          have := h40 _ hk
          omega
        show (if gw h' 0 = 0 then _ else _) = _
        rw [h3 hz]
        rfl
      | 2, hc =>
        have hz : kd i = 4 := by
          have : ∀ n, n < 10 → ∀ m, m < 40 → (fc n)[m]? = some 2 → n = 4 := by decide +kernel
          refine this _ hk k ?_ hc
          have := (List.getElem?_eq_some_iff.mp hc).1
          have h40 : ∀ n, n < 10 → (fc n).length ≤ 40 := by decide +kernel
          have := h40 _ hk
          omega
        show (if gw h' 1 = 0 then _ else _) = _
        rw [h4 hz]
        rfl
      | n + 3, _ => rfl
  · rw [if_neg hk, if_neg hk]
theorem wd_si {g : GE} {h : HP} {a k : Nat} {v : Int32} {e : va_E} (he : cellE g (si h a k v) a = e) : (wd g h).set a (gB g + a, e) = wd g (si h a k v) := by
  refine wd_set he (fun j _ hj => cellE_congr (fun n => ?_) (fun _ => rfl) (fun _ => rfl) (fun _ => rfl))
  rw [gi_si, if_neg (fun q => hj q.1)]
theorem wd_sl {g : GE} {h : HP} {a k : Nat} {v : Int64} {e : va_E} (he : cellE g (sl h a k v) a = e) : (wd g h).set a (gB g + a, e) = wd g (sl h a k v) := by
  refine wd_set he (fun j _ hj => cellE_congr (fun _ => rfl) (fun n => ?_) (fun _ => rfl) (fun _ => rfl))
  rw [gl_sl, if_neg (fun q => hj q.1)]
theorem Rep.S {g : GE} {h : HP} {H : Heap} {locs : List Loc} (hL : LO g locs) : va_S (frA g) H H locs := ⟨Nat.le_refl _, fun _ _ _ => rfl, hL⟩
theorem Rep.after {g : GE} {h h' : HP} {H H1 : Heap} {locs1 : List Loc} (hR : Rep g h H) (hP : va_P (gC g, gS g) vwCl (wd g h') H1) (hS : va_S (frA g) H H1 locs1) : Rep g h' H1 ∧ LO g locs1 := by
  refine ⟨⟨hP, Nat.le_trans hR.2.1 hS.1, fun q hq => ?_⟩, hS.2.2⟩
  rw [hS.2.1 q (Nat.lt_of_lt_of_le hq hR.2.1) (Nat.not_le.mpr hq)]
  exact hR.2.2 q hq
/-- a number in a field is read -/
theorem wm_geti {g : GE} {d : MD} {pc : Nat} {ls : List (Option Value)} {st : List Value} {h : HP} {Q : Option Value → HP → Prop} {i x : Nat} (ci k : Nat) (pc' : Nat) (hf : FL (dO d) i ci k) (hd : decode (dB d) pc = .ok (.getfield i, 3)) (hp : pc + 3 = pc') (hx : kd x = ci) (hc : (fc ci)[k]? = some 0) (kk : Wm g d pc' ls (.int (gi h x k) :: st) h Q) : Wm g d pc ls (.ref x :: st) h Q := by
  subst hp
  refine wm_of (fun p e R s m args below meth c cells slots Qf X H locs lsr hR hL hV K => ?_) kk
  obtain ⟨q, hq, hk, hl⟩ := hf
  have hci : ci < 9 := vwCl_lt hq
  have hx2 := kd_lt hx (by omega)
  have e1 : (Value.ref x :: st).map (cv g) = .ref (gB g + x) :: st.map (cv g) := by
    show Value.ref (adr g x) :: _ = _
    rw [adr_lt (by omega)]
  rw [e1]
  refine va_get (D := (gC g, gS g)) (C := q.1) (T := q.2.1) (N := q.2.2) (v := .int (gi h x k)) X.1 X.2.1 X.2.2.2.2.1 (cls_ok ci q hq).1 X.2.2.2.1 X.2.2.2.2.2.1.1 hR.1 x (wd_get hx2 |>.trans (by rw [cellE_obj hx (by omega)])) hq k hk (X.2.2.2.2.1 _ hl) (fun _ h9 => h9) (objF_get hc) hd ?_
  exact K H locs lsr hR hL hV
/-- a reference that never changes is read -/
theorem wm_getr {g : GE} {d : MD} {pc : Nat} {ls : List (Option Value)} {st : List Value} {h : HP} {Q : Option Value → HP → Prop} {i x : Nat} (ci k n : Nat) (y : Nat) (pc' : Nat) (hf : FL (dO d) i ci k) (hd : decode (dB d) pc = .ok (.getfield i, 3)) (hp : pc + 3 = pc') (hx : kd x = ci) (hc : (fc ci)[k]? = some (n + 3)) (hy : x + n = y) (hn : n < 1000) (kk : Wm g d pc' ls (.ref y :: st) h Q) : Wm g d pc ls (.ref x :: st) h Q := by
  subst hp
  subst hy
  refine wm_of (fun p e R s m args below meth c cells slots Qf X H locs lsr hR hL hV K => ?_) kk
  obtain ⟨q, hq, hk, hl⟩ := hf
  have hci : ci < 9 := vwCl_lt hq
  have hx2 := kd_lt hx (by omega)
  have e1 : (Value.ref x :: st).map (cv g) = .ref (gB g + x) :: st.map (cv g) := by
    show Value.ref (adr g x) :: _ = _
    rw [adr_lt (by omega)]
  have e2 : (Value.ref (x + n) :: st).map (cv g) = .ref (gB g + (x + n)) :: st.map (cv g) := by
    show Value.ref (adr g (x + n)) :: _ = _
    rw [adr_lt (by omega)]
  rw [e1]
  refine va_get (D := (gC g, gS g)) (C := q.1) (T := q.2.1) (N := q.2.2) (v := .ref (gB g + (x + n))) X.1 X.2.1 X.2.2.2.2.1 (cls_ok ci q hq).1 X.2.2.2.1 X.2.2.2.2.2.1.1 hR.1 x (wd_get hx2 |>.trans (by rw [cellE_obj hx (by omega)])) hq k hk (X.2.2.2.2.1 _ hl) (fun _ h9 => h9) (objF_get hc) hd ?_
  have K1 := K H locs lsr hR hL hV
  rw [e2] at K1
  exact K1
/-- the world that the network (j 0) or the stream (j 1) looks at is read -/
theorem wm_getw {g : GE} {d : MD} {pc : Nat} {ls : List (Option Value)} {st : List Value} {h : HP} {Q : Option Value → HP → Prop} {i x : Nat} (ci j : Nat) (pc' : Nat) (hf : FL (dO d) i ci 0) (hd : decode (dB d) pc = .ok (.getfield i, 3)) (hp : pc + 3 = pc') (hx : kd x = ci) (hc : (fc ci)[0]? = some (j + 1)) (hj : j < 2) (hw : kd (gw h j) = 6) (kk : Wm g d pc' ls (.ref (gw h j) :: st) h Q) : Wm g d pc ls (.ref x :: st) h Q := by
  subst hp
  refine wm_of (fun p e R s m args below meth c cells slots Qf X H locs lsr hR hL hV K => ?_) kk
  obtain ⟨q, hq, hk, hl⟩ := hf
  have hci : ci < 9 := vwCl_lt hq
  have hx2 := kd_lt hx (by omega)
  have hw2 := kd_lt hw (by omega)
  have hw0 : gw h j ≠ 0 := by
    intro z
    rw [z] at hw
    exact absurd hw (by decide +kernel)
  have e1 : (Value.ref x :: st).map (cv g) = .ref (gB g + x) :: st.map (cv g) := by
    show Value.ref (adr g x) :: _ = _
    rw [adr_lt (by omega)]
  have e2 : (Value.ref (gw h j) :: st).map (cv g) = .ref (gB g + gw h j) :: st.map (cv g) := by
    show Value.ref (adr g (gw h j)) :: _ = _
    rw [adr_lt (by omega)]
  rw [e1]
  refine va_get (D := (gC g, gS g)) (C := q.1) (T := q.2.1) (N := q.2.2) (v := .ref (gB g + gw h j)) X.1 X.2.1 X.2.2.2.2.1 (cls_ok ci q hq).1 X.2.2.2.1 X.2.2.2.2.2.1.1 hR.1 x (wd_get hx2 |>.trans (by rw [cellE_obj hx (by omega)])) hq 0 hk (X.2.2.2.2.1 _ hl) (fun _ h9 => h9) ((objF_get hc).trans ?_) hd ?_
  · have : j = 0 ∨ j = 1 := by omega
    rcases this with rfl | rfl
    · show some (if gw h 0 = 0 then _ else _) = _
      rw [if_neg hw0]
    · show some (if gw h 1 = 0 then _ else _) = _
      rw [if_neg hw0]
  · have K1 := K H locs lsr hR hL hV
    rw [e2] at K1
    exact K1
/-- a number comes into a field -/
theorem wm_puti {g : GE} {d : MD} {pc : Nat} {ls : List (Option Value)} {st : List Value} {h : HP} {Q : Option Value → HP → Prop} {i x : Nat} {v : Int32} (ci k : Nat) (pc' : Nat) (hf : FL (dO d) i ci k) (hd : decode (dB d) pc = .ok (.putfield i, 3)) (hp : pc + 3 = pc') (hx : kd x = ci) (hc : (fc ci)[k]? = some 0) (hfin : (vwCl.map (fun q => (q.2.1 k).2.2.2))[ci]? = some false) (hn : narrow (tyC ci k) (.int v) = .int v ∧ fits (tyC ci k) (.int v) = true) (kk : Wm g d pc' ls st (si h x k v) Q) : Wm g d pc ls (.int v :: .ref x :: st) h Q := by
  subst hp
  refine wm_of (fun p e R s m args below meth c cells slots Qf X H locs lsr hR hL hV K => ?_) kk
  obtain ⟨q, hq, hk, hl⟩ := hf
  have hci : ci < 9 := vwCl_lt hq
  have hx2 := kd_lt hx (by omega)
  have hfin2 : (q.2.1 k).2.2.2 = false := by
    rw [List.getElem?_map, hq] at hfin
    exact Option.some.inj hfin
  have e1 : (Value.int v :: Value.ref x :: st).map (cv g) = .int v :: .ref (gB g + x) :: st.map (cv g) := by
    show _ :: Value.ref (adr g x) :: _ = _
    rw [adr_lt (by omega)]
    rfl
  rw [e1]
  have hlen : k < (objF g h x (fc ci)).length := by
    have := (List.getElem?_eq_some_iff.mp hc).1
    simpa [objF] using this
  refine va_put (D := (gC g, gS g)) (C := q.1) (T := q.2.1) (N := q.2.2) (v := .int v) (ty := tyC ci k) X.1 X.2.1 X.2.2.2.2.1 (cls_ok ci q hq).1 (tyC ci) (cls_ok ci q hq).2.1 (cls_ok ci q hq).2.2 X.2.2.2.1 X.2.2.2.2.2.1.1 hR.1 (wd_D g h) (Rep.S (h := h) hL) x (wd_get hx2 |>.trans (by rw [cellE_obj hx (by omega)])) hq k hk (X.2.2.2.2.1 _ hl) (fun _ h9 => h9) hfin2 ((cls_ok ci q hq).2.1 k hk) hn.1 hn.2 hlen hd (fun H1 locs1 hP1 _ hS1 => ?_)
  rw [wd_si (k := k) (v := v)] at hP1
  · obtain ⟨r1, r2⟩ := hR.after hP1 hS1
    exact K H1 locs1 lsr r1 r2 hV
  · rw [cellE_obj hx (by omega)]
    congr 2
    apply List.ext_getElem?
    intro j
    by_cases hj : j = k
    · subst hj
      rw [List.getElem?_set_self hlen, objF_get hc]
      show some (Value.int (gi (si h x j v) x j)) = _
      rw [gi_si, if_pos ⟨rfl, rfl⟩]
    · rw [List.getElem?_set_ne (fun q => hj q.symm)]
      simp only [objF, List.getElem?_mapIdx]
      cases hcj : (fc ci)[j]? with
      | none => rfl
      | some cj =>
        simp only [Option.map_some]
        congr 1
        match cj with
        | 0 =>
          show Value.int (gi (si h x k v) x j) = Value.int (gi h x j)
          rw [gi_si, if_neg (fun q => hj q.2)]
        | 1 => rfl
        | 2 => rfl
        | n + 3 => rfl
end
section
/-! arrays -/
theorem cellE_i {g : GE} {h : HP} {i : Nat} (hk : kd i = 10) : cellE g h i = .inl (gA g 0, kn i, .inl (gi h i)) := by
  unfold cellE
  rw [hk]
  rfl
theorem cellE_c {g : GE} {h : HP} {i : Nat} (hk : kd i = 11) : cellE g h i = .inl (gA g 1, kn i, .inl (gi h i)) := by
  unfold cellE
  rw [hk]
  rfl
theorem cellE_l {g : GE} {h : HP} {i : Nat} (hk : kd i = 12) : cellE g h i = .inl (gA g 2, kn i, .inr (.inl (gl h i))) := by
  unfold cellE
  rw [hk]
  rfl
theorem cellE_s {g : GE} {h : HP} {i : Nat} (hk : kd i = 13) : cellE g h i = .inl (gA g 3, kn i, .inr (.inr (.inr (.inr (fun j => some (gB g + (i + 2 + j))))))) := by
  unfold cellE
  rw [hk]
  rfl
theorem cellE_n {g : GE} {h : HP} {i : Nat} (hk : kd i = 14) : cellE g h i = .inl (gA g 4, kn i, .inr (.inr (.inr (.inr (fun j => some (gB g + (i + 7 + 2 * j))))))) := by
  unfold cellE
  rw [hk]
  rfl
theorem cellE_h {g : GE} {h : HP} {i : Nat} (hk : kd i = 15) : cellE g h i = .inl (gA g 5, kn i, .inr (.inr (.inr (.inr (fun j => some (gB g + (i + 2 + 2 * j))))))) := by
  unfold cellE
  rw [hk]
  rfl
theorem kn_le : ∀ i, i < 146 → kn i ≤ 1068 := by decide +kernel
theorem ref_map {g : GE} {x : Nat} (st : List Value) (h : x < 5000) : (Value.ref x :: st).map (cv g) = .ref (gB g + x) :: st.map (cv g) := by
  show Value.ref (adr g x) :: _ = _
  rw [adr_lt h]
abbrev ix (i : Int32) : Nat := i.toNatClampNeg
theorem vp_in_lt {i : Int32} {n : Nat} (h : vp_in i n) : ix i < n := Nat.not_le.mp fun q => h (Or.inr q)
theorem wm_iald {g : GE} {d : MD} {pc : Nat} {ls : List (Option Value)} {st : List Value} {h : HP} {Q : Option Value → HP → Prop} {a : Nat} {i : Int32} (n : Nat) (pc' : Nat) (hd : decode (dB d) pc = .ok (.iaload, 1)) (hp : pc + 1 = pc') (ha : kd a = 10) (hn : kn a = n) (hi : vp_in i n) (kk : Wm g d pc' ls (.int (gi h a (ix i)) :: st) h Q) : Wm g d pc ls (.int i :: .ref a :: st) h Q := by
  subst hp
  refine wm_of (fun p e R s m args below meth c cells slots Qf X H locs lsr hR hL hV K => ?_) kk
  have ha2 := kd_lt ha (by omega)
  rw [List.map_cons, ref_map st (by omega)]
  exact va_iald X.1 X.2.1 X.2.2.2.2.2.1.1 hR.1 a 0 ((wd_get ha2).trans (by rw [cellE_i ha, hn])) rfl hi hd (K H locs lsr hR hL hV)
theorem wm_cald {g : GE} {d : MD} {pc : Nat} {ls : List (Option Value)} {st : List Value} {h : HP} {Q : Option Value → HP → Prop} {a : Nat} {i : Int32} (n : Nat) (pc' : Nat) (hd : decode (dB d) pc = .ok (.caload, 1)) (hp : pc + 1 = pc') (ha : kd a = 11) (hn : kn a = n) (hi : vp_in i n) (kk : Wm g d pc' ls (.int (gi h a (ix i)) :: st) h Q) : Wm g d pc ls (.int i :: .ref a :: st) h Q := by
  subst hp
  refine wm_of (fun p e R s m args below meth c cells slots Qf X H locs lsr hR hL hV K => ?_) kk
  have ha2 := kd_lt ha (by omega)
  rw [List.map_cons, ref_map st (by omega)]
  exact va_cald X.1 X.2.1 X.2.2.2.2.2.1.1 hR.1 a 1 ((wd_get ha2).trans (by rw [cellE_c ha, hn])) rfl hi hd (K H locs lsr hR hL hV)
theorem wm_lald {g : GE} {d : MD} {pc : Nat} {ls : List (Option Value)} {st : List Value} {h : HP} {Q : Option Value → HP → Prop} {a : Nat} {i : Int32} (n : Nat) (pc' : Nat) (hd : decode (dB d) pc = .ok (.laload, 1)) (hp : pc + 1 = pc') (ha : kd a = 12) (hn : kn a = n) (hi : vp_in i n) (kk : Wm g d pc' ls (.long (gl h a (ix i)) :: st) h Q) : Wm g d pc ls (.int i :: .ref a :: st) h Q := by
  subst hp
  refine wm_of (fun p e R s m args below meth c cells slots Qf X H locs lsr hR hL hV K => ?_) kk
  have ha2 := kd_lt ha (by omega)
  rw [List.map_cons, ref_map st (by omega)]
  exact va_lald X.1 X.2.1 X.2.2.2.2.2.1.1 hR.1 a 2 ((wd_get ha2).trans (by rw [cellE_l ha, hn])) rfl hi hd (K H locs lsr hR hL hV)
/-- an object out of a row: stations, lines, sheets -/
theorem wm_aald {g : GE} {d : MD} {pc : Nat} {ls : List (Option Value)} {st : List Value} {h : HP} {Q : Option Value → HP → Prop} {a : Nat} {i : Int32} (n : Nat) (y : Nat) (pc' : Nat) (hd : decode (dB d) pc = .ok (.aaload, 1)) (hp : pc + 1 = pc') (ha : (kd a = 13 ∧ a + 2 + ix i = y) ∨ (kd a = 14 ∧ a + 7 + 2 * ix i = y) ∨ (kd a = 15 ∧ a + 2 + 2 * ix i = y)) (hn : kn a = n) (hi : vp_in i n) (kk : Wm g d pc' ls (.ref y :: st) h Q) : Wm g d pc ls (.int i :: .ref a :: st) h Q := by
  subst hp
  refine wm_of (fun p e R s m args below meth c cells slots Qf X H locs lsr hR hL hV K => ?_) kk
  have ha2 : a < 146 := by
    rcases ha with h9 | h9 | h9 <;> exact kd_lt h9.1 (by omega)
  have hkn := kn_le a ha2
  have hil := vp_in_lt hi
  have K1 := K H locs lsr hR hL hV
  rw [ref_map st (by omega)] at K1
  rw [List.map_cons, ref_map st (by omega)]
  rcases ha with ⟨h9, e9⟩ | ⟨h9, e9⟩ | ⟨h9, e9⟩
  · exact va_aldq (C := RX3) X.1 X.2.1 X.2.2.2.2.2.1.1 hR.1 a 3 ((wd_get ha2).trans (by rw [cellE_s h9, hn])) rfl hi hd (by rw [← e9] at K1; exact K1)
  · exact va_aldq (C := RX0) X.1 X.2.1 X.2.2.2.2.2.1.1 hR.1 a 4 ((wd_get ha2).trans (by rw [cellE_n h9, hn])) rfl hi hd (by rw [← e9] at K1; exact K1)
  · exact va_aldq (C := RX2) X.1 X.2.1 X.2.2.2.2.2.1.1 hR.1 a 5 ((wd_get ha2).trans (by rw [cellE_h h9, hn])) rfl hi hd (by rw [← e9] at K1; exact K1)
theorem wm_alen {g : GE} {d : MD} {pc : Nat} {ls : List (Option Value)} {st : List Value} {h : HP} {Q : Option Value → HP → Prop} {a : Nat} (v : Int32) (pc' : Nat) (hd : decode (dB d) pc = .ok (.arraylength, 1)) (hp : pc + 1 = pc') (ha : kd a = 10 ∨ kd a = 12) (hn : Int32.ofNat (kn a) = v) (kk : Wm g d pc' ls (.int v :: st) h Q) : Wm g d pc ls (.ref a :: st) h Q := by
  subst hp
  refine wm_of (fun p e R s m args below meth c cells slots Qf X H locs lsr hR hL hV K => ?_) kk
  have ha2 : a < 146 := by
    rcases ha with h9 | h9 <;> exact kd_lt h9 (by omega)
  rw [ref_map st (by omega)]
  rcases ha with h9 | h9
  · exact va_alen (ty := .int) X.1 X.2.1 X.2.2.2.2.2.1.1 hR.1 a 0 ((wd_get ha2).trans (by rw [cellE_i h9])) rfl hn hd (K H locs lsr hR hL hV)
  · exact va_alen (ty := .long) X.1 X.2.1 X.2.2.2.2.2.1.1 hR.1 a 2 ((wd_get ha2).trans (by rw [cellE_l h9])) rfl hn hd (K H locs lsr hR hL hV)
theorem wm_iast {g : GE} {d : MD} {pc : Nat} {ls : List (Option Value)} {st : List Value} {h : HP} {Q : Option Value → HP → Prop} {a : Nat} {i x : Int32} (n : Nat) (pc' : Nat) (hd : decode (dB d) pc = .ok (.iastore, 1)) (hp : pc + 1 = pc') (ha : kd a = 10) (hn : kn a = n) (hi : vp_in i n) (kk : Wm g d pc' ls st (si h a (ix i) x) Q) : Wm g d pc ls (.int x :: .int i :: .ref a :: st) h Q := by
  subst hp
  refine wm_of (fun p e R s m args below meth c cells slots Qf X H locs lsr hR hL hV K => ?_) kk
  have ha2 := kd_lt ha (by omega)
  rw [List.map_cons, List.map_cons, ref_map st (by omega)]
  refine va_iast X.1 X.2.1 X.2.2.2.2.2.1.1 hR.1 (wd_D g h) (Rep.S (h := h) hL) a 0 ((wd_get ha2).trans (by rw [cellE_i ha, hn])) rfl hi hd (fun H1 locs1 hP1 _ hS1 => ?_)
  rw [wd_si (k := ix i) (v := x)] at hP1
  · obtain ⟨r1, r2⟩ := hR.after hP1 hS1
    exact K H1 locs1 lsr r1 r2 hV
  · rw [cellE_i ha, hn]
    congr 4
    funext j
    show gi (si h a (ix i) x) a j = if j = ix i then x else gi h a j
    rw [gi_si]
    by_cases hj : j = ix i
    · rw [if_pos ⟨rfl, hj⟩, if_pos hj]
    · rw [if_neg (fun q => hj q.2), if_neg hj]
theorem wm_last {g : GE} {d : MD} {pc : Nat} {ls : List (Option Value)} {st : List Value} {h : HP} {Q : Option Value → HP → Prop} {a : Nat} {i : Int32} {x : Int64} (n : Nat) (pc' : Nat) (hd : decode (dB d) pc = .ok (.lastore, 1)) (hp : pc + 1 = pc') (ha : kd a = 12) (hn : kn a = n) (hi : vp_in i n) (kk : Wm g d pc' ls st (sl h a (ix i) x) Q) : Wm g d pc ls (.long x :: .int i :: .ref a :: st) h Q := by
  subst hp
  refine wm_of (fun p e R s m args below meth c cells slots Qf X H locs lsr hR hL hV K => ?_) kk
  have ha2 := kd_lt ha (by omega)
  rw [List.map_cons, List.map_cons, ref_map st (by omega)]
  refine va_last X.1 X.2.1 X.2.2.2.2.2.1.1 hR.1 (wd_D g h) (Rep.S (h := h) hL) a 2 ((wd_get ha2).trans (by rw [cellE_l ha, hn])) rfl hi hd (fun H1 locs1 hP1 _ hS1 => ?_)
  rw [wd_sl (k := ix i) (v := x)] at hP1
  · obtain ⟨r1, r2⟩ := hR.after hP1 hS1
    exact K H1 locs1 lsr r1 r2 hV
  · rw [cellE_l ha, hn]
    congr 5
    funext j
    show gl (sl h a (ix i) x) a j = if j = ix i then x else gl h a j
    rw [gl_sl]
    by_cases hj : j = ix i
    · rw [if_pos ⟨rfl, hj⟩, if_pos hj]
    · rw [if_neg (fun q => hj q.2), if_neg hj]
theorem kd_one : ∀ i, i < 146 → (kd i = 1 → i = 88) ∧ (kd i = 4 → i = 99) := by decide +kernel
/-- the network, or the stream, looks at another world -/
theorem wm_putw {g : GE} {d : MD} {pc : Nat} {ls : List (Option Value)} {st : List Value} {h : HP} {Q : Option Value → HP → Prop} {i x w : Nat} (ci j : Nat) (pc' : Nat) (hf : FL (dO d) i ci 0) (hd : decode (dB d) pc = .ok (.putfield i, 3)) (hp : pc + 3 = pc') (hx : kd x = ci) (hcj : (ci = 1 ∧ j = 0) ∨ (ci = 4 ∧ j = 1)) (hw : kd w = 6) (kk : Wm g d pc' ls st (sw h j w) Q) : Wm g d pc ls (.ref w :: .ref x :: st) h Q := by
  subst hp
  refine wm_of (fun p e R s m args below meth c cells slots Qf X H locs lsr hR hL hV K => ?_) kk
  obtain ⟨q, hq, hk, hl⟩ := hf
  have hci : ci < 9 := vwCl_lt hq
  have hx2 := kd_lt hx (by omega)
  have hw2 := kd_lt hw (by omega)
  have hw0 : w ≠ 0 := by
    intro z
    rw [z] at hw
    exact absurd hw (by decide +kernel)
  have hfin2 : (q.2.1 0).2.2.2 = false := by
    rcases hcj with ⟨rfl, rfl⟩ | ⟨rfl, rfl⟩ <;> (cases hq; rfl)
  have hty : tyC ci 0 = .object "GoodsUnderWay$World" := by
    rcases hcj with ⟨rfl, rfl⟩ | ⟨rfl, rfl⟩ <;> rfl
  have hc : (fc ci)[0]? = some (j + 1) := by
    rcases hcj with ⟨rfl, rfl⟩ | ⟨rfl, rfl⟩ <;> rfl
  rw [List.map_cons, ref_map st (by omega)]
  have e2 : cv g (.ref w) = .ref (gB g + w) := by
    show Value.ref (adr g w) = _
    rw [adr_lt (by omega)]
  rw [e2]
  have hlen : 0 < (objF g h x (fc ci)).length := by
    have := (List.getElem?_eq_some_iff.mp hc).1
    simpa [objF] using this
  refine va_put (D := (gC g, gS g)) (C := q.1) (T := q.2.1) (N := q.2.2) (v := .ref (gB g + w)) (ty := tyC ci 0) X.1 X.2.1 X.2.2.2.2.1 (cls_ok ci q hq).1 (tyC ci) (cls_ok ci q hq).2.1 (cls_ok ci q hq).2.2 X.2.2.2.1 X.2.2.2.2.2.1.1 hR.1 (wd_D g h) (Rep.S (h := h) hL) x (wd_get hx2 |>.trans (by rw [cellE_obj hx (by omega)])) hq 0 hk (X.2.2.2.2.1 _ hl) (fun _ h9 => h9) hfin2 ((cls_ok ci q hq).2.1 0 hk) (by rw [hty]; rfl) (by rw [hty]; rfl) hlen hd (fun H1 locs1 hP1 _ hS1 => ?_)
  have hset : (wd g h).set x (gB g + x, .inr (ci, (objF g h x (fc ci)).set 0 (.ref (gB g + w)))) = wd g (sw h j w) := by
    apply wd_set
    · rw [cellE_obj hx (by omega)]
      congr 2
      apply List.ext_getElem?
      intro k
      by_cases hj : k = 0
      · subst hj
        rw [List.getElem?_set_self hlen, objF_get hc]
        rcases hcj with ⟨rfl, rfl⟩ | ⟨rfl, rfl⟩
        · show some (if gw (sw h 0 w) 0 = 0 then _ else Value.ref (gB g + gw (sw h 0 w) 0)) = _
          rw [gw_sw, if_pos rfl, if_neg hw0]
        · show some (if gw (sw h 1 w) 1 = 0 then _ else Value.ref (gB g + gw (sw h 1 w) 1)) = _
          rw [gw_sw, if_pos rfl, if_neg hw0]
      · rw [List.getElem?_set_ne (fun q => hj q.symm)]
        simp only [objF, List.getElem?_mapIdx]
        cases hck : (fc ci)[k]? with
        | none => rfl
        | some ck =>
          simp only [Option.map_some]
          congr 1
          have hno : ck ≠ 1 ∧ ck ≠ 2 := by
            have : ∀ m, m < 40 → m ≠ 0 → (fc 1)[m]? ≠ some 1 ∧ (fc 1)[m]? ≠ some 2 ∧ (fc 4)[m]? ≠ some 1 ∧ (fc 4)[m]? ≠ some 2 := by decide +kernel
            have h40 : k < 40 := by
              have := (List.getElem?_eq_some_iff.mp hck).1
              have h41 : ∀ n, n < 10 → (fc n).length ≤ 40 := by decide +kernel
              have := h41 ci (by omega)
              omega
            have := this k h40 hj
            rcases hcj with ⟨rfl, rfl⟩ | ⟨rfl, rfl⟩
            · exact ⟨fun z => this.1 (by rw [hck, z]), fun z => this.2.1 (by rw [hck, z])⟩
            · exact ⟨fun z => this.2.2.1 (by rw [hck, z]), fun z => this.2.2.2 (by rw [hck, z])⟩
          match ck, hno with
          | 0, _ => rfl
          | 1, hno => exact absurd rfl hno.1
          | 2, hno => exact absurd rfl hno.2
          | n + 3, _ => rfl
    · intro k hk2 hne
      refine cellE_congr (fun _ => rfl) (fun _ => rfl) (fun hz => ?_) (fun hz => ?_)
      · rw [gw_sw]
        rcases hcj with ⟨rfl, rfl⟩ | ⟨rfl, rfl⟩
        · exact absurd (((kd_one k hk2).1 hz).trans ((kd_one x hx2).1 hx).symm) hne
        · rw [if_neg (by decide)]
      · rw [gw_sw]
        rcases hcj with ⟨rfl, rfl⟩ | ⟨rfl, rfl⟩
        · rw [if_neg (by decide)]
        · exact absurd (((kd_one k hk2).2 hz).trans ((kd_one x hx2).2 hx).symm) hne
  rw [hset] at hP1
  obtain ⟨r1, r2⟩ := hR.after hP1 hS1
  exact K H1 locs1 lsr r1 r2 hV
/-- frozen rows -/
def fzN (a : Nat) : Nat := if a = 5001 then 6 else 4
def fzT (a j : Nat) : Int32 := if a = 5001 then luT j else suT j
theorem Rep.Fz {g : GE} {h : HP} {H : Heap} {locs : List Loc} {s : State} (hR : Rep g h H) (hL : LO g locs) (hz : FZ g s) : va_S (frA g) (gH g) H locs := ⟨by rw [hz.2.1.2.2.1]; exact hR.2.1, fun q _ hq => hR.2.2 q (Nat.not_le.mp hq), hL⟩
theorem wm_fald {g : GE} {d : MD} {pc : Nat} {ls : List (Option Value)} {st : List Value} {h : HP} {Q : Option Value → HP → Prop} {a : Nat} {i : Int32} (pc' : Nat) (hd : decode (dB d) pc = .ok (.iaload, 1)) (hp : pc + 1 = pc') (ha : a = 5001 ∨ a = 5002) (hi : vp_in i (fzN a)) (kk : Wm g d pc' ls (.int (fzT a (ix i)) :: st) h Q) : Wm g d pc ls (.int i :: .ref a :: st) h Q := by
  subst hp
  refine wm_of (fun p e R s m args below meth c cells slots Qf X H locs lsr hR hL hV K => ?_) kk
  have hz := X.2.2.2.2.2.1
  have hS := hR.Fz hL hz
  have hlt := vp_in_lt hi
  rcases ha with rfl | rfl
  · obtain ⟨cell, h1, h2, h3, h4, h5, h6, h7⟩ := hz.2.1.2.2.2.1
    have hc : H[gF g 1]? = some cell := by rw [hS.2.1 _ (Array.getElem?_eq_some_iff.mp h1).1 h7]; exact h1
    have hl6 : i.toNatClampNeg < 6 := hlt
    exact W.iald (v := .int (luT (ix i))) X.1 X.2.1 hc h2 h3 (fun q => q.elim (fun q => hi (Or.inl q)) (fun q => by omega)) (h6 _ hl6) rfl rfl hd (K H locs lsr hR hL hV)
  · obtain ⟨cell, h1, h2, h3, h4, h5, h6, h7⟩ := hz.2.1.2.2.2.2.1
    have hc : H[gF g 2]? = some cell := by rw [hS.2.1 _ (Array.getElem?_eq_some_iff.mp h1).1 h7]; exact h1
    have hl6 : i.toNatClampNeg < 4 := hlt
    exact W.iald (v := .int (suT (ix i))) X.1 X.2.1 hc h2 h3 (fun q => q.elim (fun q => hi (Or.inl q)) (fun q => by omega)) (h6 _ hl6) rfl rfl hd (K H locs lsr hR hL hV)
theorem wm_flen {g : GE} {d : MD} {pc : Nat} {ls : List (Option Value)} {st : List Value} {h : HP} {Q : Option Value → HP → Prop} {a : Nat} (pc' : Nat) (hd : decode (dB d) pc = .ok (.arraylength, 1)) (hp : pc + 1 = pc') (ha : a = 5001 ∨ a = 5002) (kk : Wm g d pc' ls (.int (Int32.ofNat (fzN a)) :: st) h Q) : Wm g d pc ls (.ref a :: st) h Q := by
  subst hp
  refine wm_of (fun p e R s m args below meth c cells slots Qf X H locs lsr hR hL hV K => ?_) kk
  have hz := X.2.2.2.2.2.1
  have hS := hR.Fz hL hz
  rcases ha with rfl | rfl
  · obtain ⟨cell, h1, h2, h3, h4, h5, h6, h7⟩ := hz.2.1.2.2.2.1
    have hc : H[gF g 1]? = some cell := by rw [hS.2.1 _ (Array.getElem?_eq_some_iff.mp h1).1 h7]; exact h1
    exact W.alen (n := Int32.ofNat 6) X.1 X.2.1 hc h2 h5 rfl rfl hd (K H locs lsr hR hL hV)
  · obtain ⟨cell, h1, h2, h3, h4, h5, h6, h7⟩ := hz.2.1.2.2.2.2.1
    have hc : H[gF g 2]? = some cell := by rw [hS.2.1 _ (Array.getElem?_eq_some_iff.mp h1).1 h7]; exact h1
    exact W.alen (n := Int32.ofNat 4) X.1 X.2.1 hc h2 h5 rfl rfl hd (K H locs lsr hR hL hV)
/-- a frozen row's reference -/
theorem wm_gets {g : GE} {d : MD} {pc : Nat} {ls : List (Option Value)} {st : List Value} {h : HP} {Q : Option Value → HP → Prop} {i : Nat} (a : Nat) (pc' : Nat) (hl : (a = 5001 ∧ Cond.fieldLink (dO d) i RX7 "LINE_UNDER" "[I" ∈ lwg) ∨ (a = 5002 ∧ Cond.fieldLink (dO d) i RX7 "STATION_UNDER" "[I" ∈ lwg)) (hd : decode (dB d) pc = .ok (.getstatic i, 3)) (hp : pc + 3 = pc') (kk : Wm g d pc' ls (.ref a :: st) h Q) : Wm g d pc ls st h Q := by
  subst hp
  refine wm_of (fun p e R s m args below meth c cells slots Qf X H locs lsr hR hL hV K => ?_) kk
  have hz := X.2.2.2.2.2.1
  have hS := hR.Fz hL hz
  rcases hl with ⟨rfl, hl⟩ | ⟨rfl, hl⟩
  · obtain ⟨cf, kf, fi, f, a, cell, h1, h2, h3, h4, h5, h6, h7, h8⟩ := hz.2.1.2.2.2.2.2.1
    exact W.gets X.1 X.2.1 X.2.2.2.1 (X.2.2.2.2.1 _ hl) h1 h2 h3 h4 (by rw [hS.2.1 a (Array.getElem?_eq_some_iff.mp h5).1 h8]; exact h5) (fun e => by rw [e] at h6; cases h6) h7 rfl hd (K H locs lsr hR hL hV)
  · obtain ⟨cf, kf, fi, f, a, cell, h1, h2, h3, h4, h5, h6, h7, h8⟩ := hz.2.1.2.2.2.2.2.2.1
    exact W.gets X.1 X.2.1 X.2.2.2.1 (X.2.2.2.2.1 _ hl) h1 h2 h3 h4 (by rw [hS.2.1 a (Array.getElem?_eq_some_iff.mp h5).1 h8]; exact h5) (fun e => by rw [e] at h6; cases h6) h7 rfl hd (K H locs lsr hR hL hV)
/-- the script -/
theorem wm_sald {g : GE} {d : MD} {pc : Nat} {ls : List (Option Value)} {st : List Value} {h : HP} {Q : Option Value → HP → Prop} {i : Int32} (pc' : Nat) (hd : decode (dB d) pc = .ok (.iaload, 1)) (hp : pc + 1 = pc') (hi : vp_in i (gX g).1) (kk : Wm g d pc' ls (.int ((gX g).2 (ix i)) :: st) h Q) : Wm g d pc ls (.int i :: .ref 5000 :: st) h Q := by
  subst hp
  refine wm_of (fun p e R s m args below meth c cells slots Qf X H locs lsr hR hL hV K => ?_) kk
  have hz := X.2.2.2.2.2.1
  exact va_sld (H0 := gH g) (A := frA g) X.1 X.2.1 hz.2.1.1 (by rw [hz.2.1.2.2.1]; exact hz.2.1.2.1) (Nat.not_le.mpr hz.2.1.2.1) (hR.Fz hL hz) hi hd (K H locs lsr hR hL hV)
theorem wm_slen {g : GE} {d : MD} {pc : Nat} {ls : List (Option Value)} {st : List Value} {h : HP} {Q : Option Value → HP → Prop} (pc' : Nat) (hd : decode (dB d) pc = .ok (.arraylength, 1)) (hp : pc + 1 = pc') (kk : Wm g d pc' ls (.int (Int32.ofNat (gX g).1) :: st) h Q) : Wm g d pc ls (.ref 5000 :: st) h Q := by
  subst hp
  refine wm_of (fun p e R s m args below meth c cells slots Qf X H locs lsr hR hL hV K => ?_) kk
  have hz := X.2.2.2.2.2.1
  exact va_slen (H0 := gH g) (A := frA g) X.1 X.2.1 hz.2.1.1 (by rw [hz.2.1.2.2.1]; exact hz.2.1.2.1) (Nat.not_le.mpr hz.2.1.2.1) (hR.Fz hL hz) hd (K H locs lsr hR hL hV)
/-- a text's reference -/
theorem wm_ldcs {g : GE} {d : MD} {pc : Nat} {ls : List (Option Value)} {st : List Value} {h : HP} {Q : Option Value → HP → Prop} {i : Nat} (j : Nat) (pc' : Nat) (ho : dO d = RX5) (hj : j < 16) (hi : (nmS.getD j (0, "")).1 = i) (hd : decode (dB d) pc = .ok (.ldc i, 2)) (hp : pc + 2 = pc') (kk : Wm g d pc' ls (.ref (6000 + j) :: st) h Q) : Wm g d pc ls st h Q := by
  subst hp
  refine wm_of (fun p e R s m args below meth c cells slots Qf X H locs lsr hR hL hV K => ?_) kk
  have hz := X.2.2.2.2.2.1.2.2.1 j hj
  rw [hi] at hz
  have K1 := K H locs lsr hR hL hV
  have e1 : (Value.ref (6000 + j) :: st).map (cv g) = .ref (gF g (1000 + j)) :: st.map (cv g) := by
    show Value.ref (adr g (6000 + j)) :: _ = _
    unfold adr
    rw [if_neg (by omega), show 6000 + j - 5000 = 1000 + j by omega]
  rw [e1] at K1
  exact va_ldcS X.1 X.2.1 (by rw [← ho]; exact X.2.2.2.1) hz hd K1
end
section
/-! calls -/
/-- the words of a method: its code first -/
abbrev wsM (d : MD) : List Cond := Cond.code (dY d) (dB d) (dN d) (dR d) :: lwg
abbrev rmM (d : MD) : Room := { frames := dF d, cells := 0, slots := 0, locals := dW d }
def PcM (g : GE) (h : HP) (vs : List Value) : Array Value → State → Prop := fun a U => a = (vs.map (cv g)).toArray ∧ Rep g h U.heap ∧ FZ g U
def QcM (g : GE) (d : MD) (Q : Option Value → HP → Prop) : Array Value → State → Outcome → State → Prop := fun _ _ oc t => ∃ (r : Option Value) (h' : HP), oc = .returned (r.map (cv g)) ∧ Q r h' ∧ RV d r ∧ Rep g h' t.heap ∧ FZ g t
/-- what a method's name and tables must say -/
def MO (d : MD) : Prop := plainName (dY d).cls = true ∧ dO d = (dY d).cls ∧ Cond.code (dY d) (dB d) (dN d) (dR d) ∈ lwg ∧ Cond.initialized (dY d).cls ∈ lwg ∧ ((dY d).cls ≠ "java/lang/invoke/MethodHandle" ∧ (dY d).cls ≠ "java/lang/invoke/VarHandle")
/-- the locals with which a method begins -/
def ent : List Value → List (Option Value)
  | [] => []
  | v :: vs => if v.category = 2 then some v :: none :: ent vs else some v :: ent vs
theorem ent_args (g : GE) (vs : List Value) : ∀ (b i : Nat) (v : Value), (ent vs)[i]? = some (some v) → (b + i, cv g v) ∈ lv_args b (vs.map (cv g)) := by
  induction vs with
  | nil => intro b i v h; simp [ent] at h
  | cons w vs ih =>
    intro b i v h
    show _ ∈ (b, cv g w) :: lv_args (if (cv g w).category = 2 then b + 2 else b + 1) (vs.map (cv g))
    rw [cv_cat]
    by_cases hc : w.category = 2
    · rw [if_pos hc]
      simp only [ent, hc, if_true] at h
      match i, h with
      | 0, h =>
        simp at h
        subst h
        exact List.mem_cons_self
      | 1, h => simp at h
      | i + 2, h =>
        simp only [List.getElem?_cons_succ] at h
        have := ih (b + 2) i v h
        rw [show b + (i + 2) = b + 2 + i by omega]
        exact List.mem_cons_of_mem _ this
    · rw [if_neg hc]
      simp only [ent, hc, if_false] at h
      match i, h with
      | 0, h =>
        simp at h
        subst h
        exact List.mem_cons_self
      | i + 1, h =>
        simp only [List.getElem?_cons_succ] at h
        have := ih (b + 1) i v h
        rw [show b + (i + 1) = b + 1 + i by omega]
        exact List.mem_cons_of_mem _ this
theorem sl_len (g : GE) (vs : List Value) : (lg_sl (vs.map (cv g))).length = (lg_sl vs).length := by
  induction vs with
  | nil => rfl
  | cons v vs ih =>
    simp only [lg_sl, List.map_cons, List.flatMap_cons, List.length_append] at ih ⊢
    rw [ih, cv_cat]
    split <;> rfl
/-- a method's contract, out of its walk on the small machine -/
theorem met_of {g : GE} {d : MD} {h : HP} {vs : List Value} {Q : Option Value → HP → Prop} {ls : List (Option Value)} (hm : MO d) (hl : (lg_sl vs).length ≤ dN d) (he : ∀ (i : Nat) (v : Value), ls[i]? = some (some v) → (ent vs)[i]? = some (some v)) (k : Wm g d 0 ls [] h Q) : Met (gL g) (dY d) (wsM d) (rmM d) (PcM g h vs) (QcM g d Q) 0 0 (frA g) := by
  refine Met.ofW (cc := dB d) (maxL := dN d) (ret := dR d) hm.1 rfl ?_
  intro p e s m args below meth c s₁ B hml hv
  obtain ⟨rfl, hR, hz⟩ := hv
  have hts : ∀ w ∈ lwg, w.before ((vs.map (cv g)).toArray) s = true := fun w hw => atoms_spec (ws := wsM d) B.pre w (List.mem_cons_of_mem _ hw)
  have hown : s.vm.findClass (dO d) = some m.cls := by rw [hm.2.1]; exact findClass_of_methodNamed B.named
  have hlocks := B.notSynchronized
  have hlv := lv_entry (vs.map (cv g)) (n := dN d) (by rw [sl_len]; exact hl)
  rw [lg_entry_eq]
  refine k p e (rmM d) s m _ below meth c 0 0 _ ⟨B.exec, B.bytes, hml, hown, hts, hz, Nat.le_refl _, Nat.le_refl _, Nat.le_refl _, Nat.le_refl _⟩ ?_ s.heap [] _ hR (fun q hq => by cases hq) ⟨hlv.1, hlv.2.1, fun i v hi => hlv.2.2 (i, cv g v) (by have := ent_args g vs 0 i v (he i v hi); rw [Nat.zero_add] at this; exact this)⟩
  intro pc' lsr' H' locs' r h' hq hR' hL' hrv hrd
  have hr : meth.sig.returnType = dR d := B.returns
  match r, hrv, hrd with
  | none, hrv, hrd =>
    exact W.vret B.exec B.bytes (hr.trans hrv) (fun t ht hW => ⟨none, h', rfl, hq, hrv, by rw [ht]; exact hR', hz.warm hW⟩) hL' hrd
  | some (.int v), hrv, hrd =>
    obtain ⟨ty, ht1, ht2⟩ := hrv
    exact W.zret B.exec B.bytes (hr.trans ht1) ht2 (fun t ht hW => ⟨some (.int v), h', rfl, hq, ⟨ty, ht1, ht2⟩, by rw [ht]; exact hR', hz.warm hW⟩) hL' hrd
  | some (.long v), hrv, hrd =>
    exact W.lret B.exec B.bytes (hr.trans hrv) (fun t ht hW => ⟨some (.long v), h', rfl, hq, hrv, by rw [ht]; exact hR', hz.warm hW⟩) hL' hrd
  | some (.ref _), hrv, _ => exact absurd hrv (fun z => z)
  | some .null, hrv, _ => exact absurd hrv (fun z => z)
  | some (.float _), hrv, _ => exact absurd hrv (fun z => z)
  | some (.double _), hrv, _ => exact absurd hrv (fun z => z)
theorem pcM_blind {g : GE} {h : HP} {vs : List Value} : FrameBlind (PcM g h vs) := fun _ _ _ _ q => ⟨q.1, q.2.1, q.2.2.same rfl⟩
/-- going on behind a call -/
theorem run_go {g : GE} {d2 : MD} {p : Program} {e : Env} {R : Room} {s : State} {m : MethodId} {args : Array Value} {below : List Frame} {meth : Method} {c : Code} {H : Heap} {locs : List Loc} {cells slots : Nat} {Qf : State → Prop} {pc : Nat} {lsr : Array Slot} {st0 : List Value} {rest : List Value} {a : Array Value} {Q1 : Option Value → HP → Prop}
    (hr : va_Run p (gL g) e R s m args below meth c H locs cells slots 0 0 (F0 m pc lsr st0) (rest.map (cv g)) (QcM g d2 Q1 a) (frA g)) (hL : LO g locs)
    (kk : ∀ (r : Option Value) (h' : HP) (H1 : Heap) (locs1 : List Loc), Q1 r h' → RV d2 r → Rep g h' H1 → LO g locs1 → W p (gL g) e R s m args below meth c H1 locs1 cells slots Qf (F0 m (pc + 3) lsr ((r.toList ++ rest).map (cv g)))) : W p (gL g) e R s m args below meth c H locs cells slots Qf (F0 m pc lsr st0) := by
  intro T hT X
  obtain ⟨v, st₀, t, T', L, h0, X', hL2, e1, e2, ⟨r, h', hv, hq, hrv, hR', hz'⟩, st⟩ := hr T hT X
  cases hv
  have hl2 : LO g (locs ++ L) := fun q hq => by
    rcases List.mem_append.mp hq with h9 | h9
    · exact hL q h9
    · exact hL2 q h9
  obtain ⟨t2, a1, b1⟩ := kk r h' t.heap (locs ++ L) hq hrv hR' hl2 T' e1 X'
  refine ⟨t2, st t2 ?_, b1⟩
  have e3 : (r.map (cv g)).toList ++ rest.map (cv g) = (r.toList ++ rest).map (cv g) := by
    cases r <;> simp
  rw [e3]
  exact a1
def npar (d : MD) (n : Nat) : Prop := (parseMethodDescriptor (dY d).desc).map (fun q => q.parameters.length) = some n
/-- an instance method is called -/
theorem wm_callV {g : GE} {d : MD} {pc : Nat} {ls : List (Option Value)} {h : HP} {Q : Option Value → HP → Prop} (d2 : MD) {i b : Nat} (n ci : Nat) (As rest st : List Value) (Q1 : Option Value → HP → Prop) (pc' : Nat) (hm : MO d2) (hp2 : npar d2 n) (hl : Cond.methodLink (dO d) i (dY d2) ∈ lwg) (hi : Cond.instanceMethod (dY d2) ∈ lwg) (hs : Cond.selects (dO d2) (dY d2) (dY d2) ∈ lwg) (hroom : dF d2 + 1 ≤ dF d ∧ 8 + (dN d2 + 11) + dW d2 ≤ dW d)
    (hd : decode (dB d) pc = .ok (.invokevirtual i, 3)) (hp : pc + 3 = pc') (hst : As.reverse ++ .ref b :: rest = st) (hn : As.length = n) (hrest : (rest.map fun v => v.category).sum ≤ 8) (hb : kd b = ci) (hci : (vwCl.map (fun q => q.1))[ci]? = some (dO d2))
    (he : (lg_sl (.ref b :: As)).length ≤ dN d2) (ls2 : List (Option Value)) (he2 : ∀ (i : Nat) (v : Value), ls2[i]? = some (some v) → (ent (.ref b :: As))[i]? = some (some v)) (k1 : Wm g d2 0 ls2 [] h Q1)
    (k2 : ∀ (r : Option Value) (h' : HP), Q1 r h' → RV d2 r → Wm g d pc' ls (r.toList ++ rest) h' Q) : Wm g d pc ls st h Q := by
  subst hp
  subst hst
  intro p e R s m args below meth c cells slots Qf X RET H locs lsr hR hL hV
  have hM := met_of hm he he2 k1
  obtain ⟨hx, hb2, hml, hown, hts, hz, hF, hW2, hcl, hsl⟩ := id X
  have hb3 : b < 146 := by
    have hc9 : ci < 9 := by
      have := (List.getElem?_eq_some_iff.mp hci).1
      simpa using this
    exact kd_lt hb (by omega)
  rw [List.map_append, List.map_reverse, ref_map rest (by omega)]
  have hG : ∀ w ∈ wsM d2, w ∈ lwg := fun w hw => by
    rcases List.mem_cons.mp hw with rfl | hw
    · exact hm.2.2.1
    · exact hw
  have cw := cwV (own := dO d) (index := i) (C := dO d2) (y := dY d2) (R := R) (ws := wsM d2) (bytes := dB d2) (maxL := dN d2) (ret := dR d2) (rm := rmM d2) (mc := 0) (ms := 0) n hts (lwg_good (fun w hw => by
    simp only [wsV, List.mem_append, List.mem_cons, List.not_mem_nil, or_false] at hw
    rcases hw with (rfl | rfl | rfl | rfl) | hw
    · exact hl
    · exact hi
    · exact hs
    · rw [hm.2.1]; exact hm.2.2.2.1
    · exact hG w (List.mem_cons.mpr hw))) rfl rfl rfl ⟨hm.2.1.symm, hm.2.2.2.2.1, hm.2.2.2.2.2, hp2⟩ ⟨Nat.le_trans hroom.1 hF, Nat.le_trans hroom.2 hW2⟩
  obtain ⟨q, hq⟩ : ∃ q : vw_C, vwCl[ci]? = some q ∧ q.1 = dO d2 := by
    rw [List.getElem?_map] at hci
    cases hv : vwCl[ci]? with
    | none => rw [hv] at hci; cases hci
    | some q => rw [hv] at hci; exact ⟨q, rfl, Option.some.inj hci⟩
  have hc9 : ci < 9 := vwCl_lt hq.1
  have hrc : ∃ cell : Cell, H[gB g + b]? = some cell ∧ cell.vm.isStatics = false ∧ s.vm.findClass (dO d2) = some cell.cls := by
    rw [← hq.2]
    exact va_recv hz.1 hR.1 hq.1 ((wd_get hb3).trans (by rw [cellE_obj hb (by omega)]))
  have run := va_runV (l := gL g) (e := e) (below := below) (meth := meth) (locs := locs) (cells := cells) (slots := slots) (b := gB g + b) (As := As.map (cv g)) (rest := rest.map (cv g)) (g := F0 m pc lsr ((As.map (cv g)).reverse ++ .ref (gB g + b) :: rest.map (cv g))) (cc := dB d) (nL := dN d) (H := H) ⟨hx, hb2, hml, hown, hts⟩ hM cw ⟨pcM_blind, hrc, fun U hU hW => ⟨by rw [List.map_cons]; show _ = (Value.ref (adr g b) :: _).toArray; rw [adr_lt (by omega)], by rw [hU]; exact hR, hz.warm hW⟩⟩ rfl (by rw [List.length_map]; exact hn) hV.1 rfl (by
    have : ((rest.map (cv g)).map fun v => v.category) = rest.map fun v => v.category := by
      rw [List.map_map]
      exact List.map_congr_left (fun v _ => cv_cat g v)
    rw [this]
    show 2 * 0 + _ ≤ 8
    omega) hd ⟨by omega, by omega⟩
  exact run_go run hL (fun r h' H1 locs1 q1 q2 q3 q4 => k2 r h' q1 q2 p e R s m args below meth c cells slots Qf X RET H1 locs1 lsr q3 q4 hV)
/-- the words below a call's arguments -/
theorem rest_ok {g : GE} {rest : List Value} (hrest : (rest.map fun v => v.category).sum ≤ 8) : 2 * 0 + ((rest.map (cv g)).map fun v => v.category).sum ≤ 8 := by
  have : ((rest.map (cv g)).map fun v => v.category) = rest.map fun v => v.category := by
    rw [List.map_map]
    exact List.map_congr_left (fun v _ => cv_cat g v)
  rw [this]
  omega
/-- a static method is called -/
theorem wm_callS {g : GE} {d : MD} {pc : Nat} {ls : List (Option Value)} {h : HP} {Q : Option Value → HP → Prop} (d2 : MD) {i : Nat} (n : Nat) (As rest st : List Value) (Q1 : Option Value → HP → Prop) (pc' : Nat) (hm : MO d2) (hp2 : npar d2 n) (hl : Cond.methodLink (dO d) i (dY d2) ∈ lwg) (hi : Cond.static (dY d2) ∈ lwg) (hroom : dF d2 + 1 ≤ dF d ∧ 8 + (dN d2 + 11) + dW d2 ≤ dW d)
    (hd : decode (dB d) pc = .ok (.invokestatic i, 3)) (hp : pc + 3 = pc') (hst : As.reverse ++ rest = st) (hn : As.length = n) (hrest : (rest.map fun v => v.category).sum ≤ 8)
    (he : (lg_sl As).length ≤ dN d2) (ls2 : List (Option Value)) (he2 : ∀ (i : Nat) (v : Value), ls2[i]? = some (some v) → (ent As)[i]? = some (some v)) (k1 : Wm g d2 0 ls2 [] h Q1)
    (k2 : ∀ (r : Option Value) (h' : HP), Q1 r h' → RV d2 r → Wm g d pc' ls (r.toList ++ rest) h' Q) : Wm g d pc ls st h Q := by
  subst hp
  subst hst
  intro p e R s m args below meth c cells slots Qf X RET H locs lsr hR hL hV
  have hM := met_of hm he he2 k1
  obtain ⟨hx, hb2, hml, hown, hts, hz, hF, hW2, hcl, hsl⟩ := id X
  rw [List.map_append, List.map_reverse]
  have hG : ∀ w ∈ wsM d2, w ∈ lwg := fun w hw => by
    rcases List.mem_cons.mp hw with rfl | hw
    · exact hm.2.2.1
    · exact hw
  have cw := va_cwS (own := dO d) (index := i) (y := dY d2) (R := R) (ws := wsM d2) (bytes := dB d2) (maxL := dN d2) (ret := dR d2) (rm := rmM d2) (mc := 0) (ms := 0) n hts (lwg_good (fun w hw => by
    simp only [va_wsS, List.mem_append, List.mem_cons, List.not_mem_nil, or_false] at hw
    rcases hw with (rfl | rfl | rfl) | hw
    · exact hl
    · exact hi
    · exact hm.2.2.2.1
    · exact hG w (List.mem_cons.mpr hw))) rfl rfl rfl ⟨hm.2.2.2.2.1, hm.2.2.2.2.2, hp2⟩ ⟨Nat.le_trans hroom.1 hF, Nat.le_trans hroom.2 hW2⟩
  have run := va_runS (l := gL g) (e := e) (below := below) (meth := meth) (locs := locs) (cells := cells) (slots := slots) (As := As.map (cv g)) (rest := rest.map (cv g)) (g := F0 m pc lsr ((As.map (cv g)).reverse ++ rest.map (cv g))) (cc := dB d) (nL := dN d) (H := H) ⟨hx, hb2, hml, hown, hts⟩ hM cw ⟨pcM_blind, fun U hU hW => ⟨rfl, by rw [hU]; exact hR, hz.warm hW⟩⟩ rfl (by rw [List.length_map]; exact hn) hV.1 rfl (rest_ok hrest) hd ⟨by omega, by omega⟩
  exact run_go run hL (fun r h' H1 locs1 q1 q2 q3 q4 => k2 r h' q1 q2 p e R s m args below meth c cells slots Qf X RET H1 locs1 lsr q3 q4 hV)
/-- isIn is called from a class inside -/
theorem wm_callN {g : GE} {d : MD} {pc : Nat} {ls : List (Option Value)} {h : HP} {Q : Option Value → HP → Prop} (d2 : MD) {i : Nat} (n : Nat) (As rest st : List Value) (Q1 : Option Value → HP → Prop) (pc' : Nat) (hm : MO d2) (hp2 : npar d2 n) (hy : dY d2 = yX7_isIn) (hl : (dO d, i) ∈ nmN) (hi : Cond.static (dY d2) ∈ lwg) (hroom : dF d2 + 1 ≤ dF d ∧ 8 + (dN d2 + 11) + dW d2 ≤ dW d)
    (hd : decode (dB d) pc = .ok (.invokestatic i, 3)) (hp : pc + 3 = pc') (hst : As.reverse ++ rest = st) (hn : As.length = n) (hrest : (rest.map fun v => v.category).sum ≤ 8)
    (he : (lg_sl As).length ≤ dN d2) (ls2 : List (Option Value)) (he2 : ∀ (i : Nat) (v : Value), ls2[i]? = some (some v) → (ent As)[i]? = some (some v)) (k1 : Wm g d2 0 ls2 [] h Q1)
    (k2 : ∀ (r : Option Value) (h' : HP), Q1 r h' → RV d2 r → Wm g d pc' ls (r.toList ++ rest) h' Q) : Wm g d pc ls st h Q := by
  subst hp
  subst hst
  intro p e R s m args below meth c cells slots Qf X RET H locs lsr hR hL hV
  have hM := met_of hm he he2 k1
  obtain ⟨hx, hb2, hml, hown, hts, hz, hF, hW2, hcl, hsl⟩ := id X
  rw [List.map_append, List.map_reverse]
  have hG : ∀ w ∈ wsM d2, w ∈ lwg := fun w hw => by
    rcases List.mem_cons.mp hw with rfl | hw
    · exact hm.2.2.1
    · exact hw
  have hnw : va_Nw (.methodLinkNest (dO d) i (dY d2) RX7) s := by rw [hy]; exact hz.2.2.2 _ hl
  have cw := va_cnB (own := dO d) (index := i) (y := dY d2) (R := R) (ws := wsM d2) (bytes := dB d2) (maxL := dN d2) (ret := dR d2) (rm := rmM d2) (mc := 0) (ms := 0) n hts (lwg_good hG) rfl rfl rfl hnw (hts _ hm.2.2.2.1) ⟨hm.2.2.2.2.1, hm.2.2.2.2.2, hp2⟩ ⟨Nat.le_trans hroom.1 hF, Nat.le_trans hroom.2 hW2⟩
  have run := va_runSN (l := gL g) (e := e) (below := below) (meth := meth) (locs := locs) (cells := cells) (slots := slots) (As := As.map (cv g)) (rest := rest.map (cv g)) (g := F0 m pc lsr ((As.map (cv g)).reverse ++ rest.map (cv g))) (cc := dB d) (nL := dN d) (H := H) ⟨hx, hb2, hml, hown, hts⟩ hM ⟨cw, hts _ hi, trivial⟩ ⟨pcM_blind, fun U hU hW => ⟨rfl, by rw [hU]; exact hR, hz.warm hW⟩⟩ rfl (by rw [List.length_map]; exact hn) hV.1 rfl (rest_ok hrest) hd ⟨by omega, by omega⟩
  exact run_go run hL (fun r h' H1 locs1 q1 q2 q3 q4 => k2 r h' q1 q2 p e R s m args below meth c cells slots Qf X RET H1 locs1 lsr q3 q4 hV)
/-- Math.max, Math.min -/
theorem wm_max {g : GE} {d : MD} {pc : Nat} {ls : List (Option Value)} {st : List Value} {h : HP} {Q : Option Value → HP → Prop} {i : Nat} {x y : Int32} (pc' : Nat) (hl : Cond.methodLink (dO d) i Lib.Math.max.name ∈ lwg) (hs : Cond.static Lib.Math.max.name ∈ lwg) (hi : Cond.initialized "java/lang/Math" ∈ lwg) (hc : Cond.code Lib.Math.max.name Lib.Math.max.code 2 (some .int) ∈ lwg) (hroom : 1 ≤ dF d ∧ 21 ≤ dW d) (hrest : (st.map fun v => v.category).sum ≤ 8) (hd : decode (dB d) pc = .ok (.invokestatic i, 3)) (hp : pc + 3 = pc') (kk : Wm g d pc' ls (.int (if x < y then y else x) :: st) h Q) : Wm g d pc ls (.int y :: .int x :: st) h Q := by
  subst hp
  refine wm_of (fun p e R s m args below meth c cells slots Qf X H locs lsr hR hL hV K => ?_) kk
  obtain ⟨hx, hb2, hml, hown, hts, hz, hF, hW2, hcl, hsl⟩ := id X
  have hr := rest_ok (g := g) hrest
  exact va_mmax hx hb2 (hml.trans hV.1.symm) hown (hts _ hl) (hts _ hs) (hts _ hi) (hts _ hc) (by omega) (by omega) hcl hsl hd (K H locs lsr hR hL hV)
theorem wm_min {g : GE} {d : MD} {pc : Nat} {ls : List (Option Value)} {st : List Value} {h : HP} {Q : Option Value → HP → Prop} {i : Nat} {x y : Int32} (pc' : Nat) (hl : Cond.methodLink (dO d) i Lib.Math.min.name ∈ lwg) (hs : Cond.static Lib.Math.min.name ∈ lwg) (hi : Cond.initialized "java/lang/Math" ∈ lwg) (hc : Cond.code Lib.Math.min.name Lib.Math.min.code 2 (some .int) ∈ lwg) (hroom : 1 ≤ dF d ∧ 21 ≤ dW d) (hrest : (st.map fun v => v.category).sum ≤ 8) (hd : decode (dB d) pc = .ok (.invokestatic i, 3)) (hp : pc + 3 = pc') (kk : Wm g d pc' ls (.int (if y < x then y else x) :: st) h Q) : Wm g d pc ls (.int y :: .int x :: st) h Q := by
  subst hp
  refine wm_of (fun p e R s m args below meth c cells slots Qf X H locs lsr hR hL hV K => ?_) kk
  obtain ⟨hx, hb2, hml, hown, hts, hz, hF, hW2, hcl, hsl⟩ := id X
  have hr := rest_ok (g := g) hrest
  exact va_mmin hx hb2 (hml.trans hV.1.symm) hown (hts _ hl) (hts _ hs) (hts _ hi) (hts _ hc) (by omega) (by omega) hcl hsl hd (K H locs lsr hR hL hV)
theorem fit_i (x : Int32) : fits .int (.int x) = true := rfl
theorem wd_cpi {g : GE} {h : HP} {a b sp dp n : Nat} {e : va_E} (he : cellE g (cpi h a b sp dp n) b = e) : (wd g h).set b (gB g + b, e) = wd g (cpi h a b sp dp n) := by
  refine wd_set he (fun j _ hj => cellE_congr (fun m => ?_) (fun _ => rfl) (fun _ => rfl) (fun _ => rfl))
  rw [gi_cpi, if_neg (fun q => hj q.1)]
theorem wd_cpl {g : GE} {h : HP} {a b sp dp n : Nat} {e : va_E} (he : cellE g (cpl h a b sp dp n) b = e) : (wd g h).set b (gB g + b, e) = wd g (cpl h a b sp dp n) := by
  refine wd_set he (fun j _ hj => cellE_congr (fun _ => rfl) (fun m => ?_) (fun _ => rfl) (fun _ => rfl))
  rw [gl_cpl, if_neg (fun q => hj q.1)]
theorem cpy_len : nativeFrameWords "java/lang/System" "arraycopy" 5 + 11 ≤ 18 := by decide +kernel
/-- System.arraycopy of ints -/
theorem wm_cpi {g : GE} {d : MD} {pc : Nat} {ls : List (Option Value)} {st : List Value} {h : HP} {Q : Option Value → HP → Prop} {i a b : Nat} {sp dp n : Int32} (na nb : Nat) (pc' : Nat) (hl : Cond.methodLink (dO d) i arraycopyName ∈ lwg) (hnv : Cond.native arraycopyName ∈ lwg) (hs : Cond.static arraycopyName ∈ lwg) (hi : Cond.initialized "java/lang/System" ∈ lwg) (hroom : 1 ≤ dF d ∧ 26 ≤ dW d) (hrest : (st.map fun v => v.category).sum ≤ 8) (hd : decode (dB d) pc = .ok (.invokestatic i, 3)) (hp : pc + 3 = pc') (ha : kd a = 10) (hb : kd b = 10) (hna : kn a = na) (hnb : kn b = nb) (hin : ¬ sp < 0 ∧ ¬ dp < 0 ∧ ¬ n < 0 ∧ ix sp + ix n ≤ na ∧ ix dp + ix n ≤ nb)
    (kk : Wm g d pc' ls st (cpi h a b (ix sp) (ix dp) (ix n)) Q) : Wm g d pc ls (.int n :: .int dp :: .ref b :: .int sp :: .ref a :: st) h Q := by
  subst hp
  refine wm_of (fun p e R s m args below meth c cells slots Qf X H locs lsr hR hL hV K => ?_) kk
  obtain ⟨hx, hb2, hml, hown, hts, hz, hF, hW2, hcl, hsl⟩ := id X
  have hr := rest_ok (g := g) hrest
  have ha2 := kd_lt ha (by omega)
  have hb3 := kd_lt hb (by omega)
  have hcl5 := cpy_len
  rw [List.map_cons, List.map_cons, ref_map _ (by omega), List.map_cons, ref_map _ (by omega)]
  refine va_copyi (ty := .int) hx hb2 (hml.trans hV.1.symm) hown (hts _ hl) (hts _ hnv) (hts _ hs) (hts _ hi) hz.1 hR.1 (wd_D g h) (Rep.S (h := h) hL) a b 0 0 ((wd_get ha2).trans (by rw [cellE_i ha, hna])) ((wd_get hb3).trans (by rw [cellE_i hb, hnb])) rfl rfl rfl hin.1 hin.2.1 hin.2.2.1 hin.2.2.2.1 hin.2.2.2.2 (fun _ _ => rfl) (by omega) (by omega) hd (fun H1 locs1 hP1 _ hS1 => ?_)
  rw [wd_cpi (a := a) (sp := ix sp) (dp := ix dp) (n := ix n)] at hP1
  · obtain ⟨r1, r2⟩ := hR.after hP1 hS1
    exact K H1 locs1 lsr r1 r2 hV
  · rw [cellE_i hb, hnb]
    congr 4
    funext j
    show gi (cpi h a b (ix sp) (ix dp) (ix n)) b j = va_cpy (gi h a) (gi h b) (ix sp) (ix dp) (ix n) j
    rw [gi_cpi]
    unfold va_cpy
    by_cases hj : ix dp ≤ j ∧ j < ix dp + ix n
    · rw [if_pos ⟨rfl, hj⟩, if_pos hj]
    · rw [if_neg (fun q => hj q.2), if_neg hj]
/-- System.arraycopy of longs -/
theorem wm_cpl {g : GE} {d : MD} {pc : Nat} {ls : List (Option Value)} {st : List Value} {h : HP} {Q : Option Value → HP → Prop} {i a b : Nat} {sp dp n : Int32} (na nb : Nat) (pc' : Nat) (hl : Cond.methodLink (dO d) i arraycopyName ∈ lwg) (hnv : Cond.native arraycopyName ∈ lwg) (hs : Cond.static arraycopyName ∈ lwg) (hi : Cond.initialized "java/lang/System" ∈ lwg) (hroom : 1 ≤ dF d ∧ 26 ≤ dW d) (hrest : (st.map fun v => v.category).sum ≤ 8) (hd : decode (dB d) pc = .ok (.invokestatic i, 3)) (hp : pc + 3 = pc') (ha : kd a = 12) (hb : kd b = 12) (hna : kn a = na) (hnb : kn b = nb) (hin : ¬ sp < 0 ∧ ¬ dp < 0 ∧ ¬ n < 0 ∧ ix sp + ix n ≤ na ∧ ix dp + ix n ≤ nb)
    (kk : Wm g d pc' ls st (cpl h a b (ix sp) (ix dp) (ix n)) Q) : Wm g d pc ls (.int n :: .int dp :: .ref b :: .int sp :: .ref a :: st) h Q := by
  subst hp
  refine wm_of (fun p e R s m args below meth c cells slots Qf X H locs lsr hR hL hV K => ?_) kk
  obtain ⟨hx, hb2, hml, hown, hts, hz, hF, hW2, hcl, hsl⟩ := id X
  have hr := rest_ok (g := g) hrest
  have ha2 := kd_lt ha (by omega)
  have hb3 := kd_lt hb (by omega)
  have hcl5 := cpy_len
  rw [List.map_cons, List.map_cons, ref_map _ (by omega), List.map_cons, ref_map _ (by omega)]
  refine va_copyl (ty := .long) hx hb2 (hml.trans hV.1.symm) hown (hts _ hl) (hts _ hnv) (hts _ hs) (hts _ hi) hz.1 hR.1 (wd_D g h) (Rep.S (h := h) hL) a b 2 2 ((wd_get ha2).trans (by rw [cellE_l ha, hna])) ((wd_get hb3).trans (by rw [cellE_l hb, hnb])) rfl rfl rfl hin.1 hin.2.1 hin.2.2.1 hin.2.2.2.1 hin.2.2.2.2 (fun _ _ => rfl) (by omega) (by omega) hd (fun H1 locs1 hP1 _ hS1 => ?_)
  rw [wd_cpl (a := a) (sp := ix sp) (dp := ix dp) (n := ix n)] at hP1
  · obtain ⟨r1, r2⟩ := hR.after hP1 hS1
    exact K H1 locs1 lsr r1 r2 hV
  · rw [cellE_l hb, hnb]
    congr 5
    funext j
    show gl (cpl h a b (ix sp) (ix dp) (ix n)) b j = va_cpy (gl h a) (gl h b) (ix sp) (ix dp) (ix n) j
    rw [gl_cpl]
    unfold va_cpy
    by_cases hj : ix dp ≤ j ∧ j < ix dp + ix n
    · rw [if_pos ⟨rfl, hj⟩, if_pos hj]
    · rw [if_neg (fun q => hj q.2), if_neg hj]
end
section
/-! what the printed walks use -/
def okS (ls : List (Option Value)) : Nat → Bool
  | 0 => true
  | j + 1 => match ls[j]? with
    | some (some v) => v.category == 1
    | _ => true
theorem okS_spec {ls : List (Option Value)} {i : Nat} (h : okS ls i = true) : ∀ (j : Nat) (w : Value), j + 1 = i → ls[j]? = some (some w) → w.category = 1 := by
  intro j w hj hw
  subst hj
  simp only [okS, hw, beq_iff_eq] at h
  exact h
theorem ofI_eq {x k : Int32} {n : Int} (h : Int32.ofInt n = k) : x + Int32.ofInt n = x + k := by rw [h]
def maskL : List Bool → List (Option Value) → List (Option Value)
  | true :: ms, x :: xs => x :: maskL ms xs
  | false :: ms, _ :: xs => none :: maskL ms xs
  | _, _ => []
theorem maskL_sub : ∀ (ms : List Bool) (ls : List (Option Value)) (i : Nat) (v : Value), (maskL ms ls)[i]? = some (some v) → ls[i]? = some (some v)
  | [], ls, i, v, h => by simp [maskL] at h
  | true :: ms, [], i, v, h => by simp [maskL] at h
  | false :: ms, [], i, v, h => by simp [maskL] at h
  | true :: ms, x :: xs, 0, v, h => by simpa [maskL] using h
  | false :: ms, x :: xs, 0, v, h => by simp [maskL] at h
  | true :: ms, x :: xs, i + 1, v, h => by
    simp only [maskL, List.getElem?_cons_succ] at h ⊢
    exact maskL_sub ms xs i v h
  | false :: ms, x :: xs, i + 1, v, h => by
    simp only [maskL, List.getElem?_cons_succ] at h ⊢
    exact maskL_sub ms xs i v h
theorem wm_mask {g : GE} {d : MD} {pc : Nat} {ls : List (Option Value)} {st : List Value} {h : HP} {Q : Option Value → HP → Prop} (ms : List Bool) (ls' : List (Option Value)) (hs : maskL ms ls = ls') (k : Wm g d pc ls' st h Q) : Wm g d pc ls st h Q := by
  subst hs
  exact wm_drop _ (maskL_sub ms ls) k
theorem em_go {c A B G : Prop} (H : (c → A) ∧ (¬ c → B)) (k1 : c → A → G) (k2 : ¬ c → B → G) : G := (Classical.em c).elim (fun h => k1 h (H.1 h)) (fun h => k2 h (H.2 h))
def qi (Q : Int32 → HP → Prop) : Option Value → HP → Prop := fun r h => ∃ v, r = some (.int v) ∧ Q v h
def ql (Q : Int64 → HP → Prop) : Option Value → HP → Prop := fun r h => ∃ v, r = some (.long v) ∧ Q v h
def qv (Q : HP → Prop) : Option Value → HP → Prop := fun r h => r = none ∧ Q h
theorem wm_iret {g : GE} {d : MD} {pc : Nat} {ls : List (Option Value)} {h : HP} {Q : Int32 → HP → Prop} {v : Int32} (hd : decode (dB d) pc = .ok (.ireturn, 1)) (hv : ∃ ty, dR d = some ty ∧ narrow ty (.int v) = .int v) (hq : Q v h) : Wm g d pc ls [.int v] h (qi Q) := wm_ret (some (.int v)) hd hv ⟨v, rfl, hq⟩
theorem wm_lret {g : GE} {d : MD} {pc : Nat} {ls : List (Option Value)} {h : HP} {Q : Int64 → HP → Prop} {v : Int64} (hd : decode (dB d) pc = .ok (.lreturn, 1)) (hv : dR d = some .long) (hq : Q v h) : Wm g d pc ls [.long v] h (ql Q) := wm_ret (some (.long v)) hd hv ⟨v, rfl, hq⟩
theorem wm_vret {g : GE} {d : MD} {pc : Nat} {ls : List (Option Value)} {h : HP} {Q : HP → Prop} (hd : decode (dB d) pc = .ok (.return_, 1)) (hv : dR d = none) (hq : Q h) : Wm g d pc ls [] h (qv Q) := wm_ret none hd hv ⟨rfl, hq⟩
theorem wm_dia {g : GE} {d : MD} {pc pc1 pc2 pcJ : Nat} {ls : List (Option Value)} {st st0 : List Value} {h : HP} {Q : Option Value → HP → Prop} {c : Prop} [dc : Decidable c] {a b : Int32} (hbr : (c → Wm g d pc1 ls st h Q) → (¬ c → Wm g d pc2 ls st h Q) → Wm g d pc ls st0 h Q) (k : Wm g d pcJ ls (.int (@ite Int32 c dc a b) :: st) h Q) (ht : Wm g d pcJ ls (.int a :: st) h Q → c → Wm g d pc1 ls st h Q) (hf : Wm g d pcJ ls (.int b :: st) h Q → ¬ c → Wm g d pc2 ls st h Q) : Wm g d pc ls st0 h Q :=
  hbr (fun hc => ht (by rw [if_pos hc] at k; exact k) hc) (fun hc => hf (by rw [if_neg hc] at k; exact k) hc)
theorem wm_diaL {g : GE} {d : MD} {pc pc1 pc2 pcJ : Nat} {ls : List (Option Value)} {st st0 : List Value} {h : HP} {Q : Option Value → HP → Prop} {c : Prop} [dc : Decidable c] {a b : Int64} (hbr : (c → Wm g d pc1 ls st h Q) → (¬ c → Wm g d pc2 ls st h Q) → Wm g d pc ls st0 h Q) (k : Wm g d pcJ ls (.long (@ite Int64 c dc a b) :: st) h Q) (ht : Wm g d pcJ ls (.long a :: st) h Q → c → Wm g d pc1 ls st h Q) (hf : Wm g d pcJ ls (.long b :: st) h Q → ¬ c → Wm g d pc2 ls st h Q) : Wm g d pc ls st0 h Q :=
  hbr (fun hc => ht (by rw [if_pos hc] at k; exact k) hc) (fun hc => hf (by rw [if_neg hc] at k; exact k) hc)
theorem nb_ite {c : Prop} {dc : Decidable c} {a b : Int32} (ha : narrow .boolean (.int a) = .int a) (hb : narrow .boolean (.int b) = .int b) : narrow .boolean (.int (@ite Int32 c dc a b)) = .int (@ite Int32 c dc a b) := by
  by_cases hc : c
  · rw [if_pos hc]; exact ha
  · rw [if_neg hc]; exact hb
theorem rv_bool {d : MD} {v : Int32} (h : RV d (some (.int v))) (hd : dR d = some .boolean) : narrow .boolean (.int v) = .int v := by
  obtain ⟨ty, h1, h2⟩ := h
  rw [hd] at h1
  cases h1
  exact h2
theorem zfit_of {v : Int32} (h : v = 0 ∨ v = 1) : narrow .boolean (.int v) = .int v ∧ fits .boolean (.int v) = true := by
  rcases h with rfl | rfl <;> decide +kernel
theorem ent_pad {vs : List Value} {ls2 : List (Option Value)} (k : Nat) (h : ls2 = ent vs ++ List.replicate k none) : ∀ (i : Nat) (v : Value), ls2[i]? = some (some v) → (ent vs)[i]? = some (some v) := by
  intro i v hi
  rw [h] at hi
  by_cases hl : i < (ent vs).length
  · rw [List.getElem?_append_left hl] at hi
    exact hi
  · rw [List.getElem?_append_right (by omega)] at hi
    have := List.eq_of_mem_replicate (List.mem_of_getElem? hi)
    cases this
theorem L_way : ∀ {x : Nat}, kd x = 0 → kd (x + 1) = 10 ∧ kn (x + 1) = 16 := by
  intro x hx
  have h1 := kd_lt hx (by decide)
  have : ∀ x, x < 146 → kd x = 0 → kd (x + 1) = 10 ∧ kn (x + 1) = 16 := by decide +kernel
  exact this x h1 hx
theorem S_row : ∀ {x : Nat}, kd x = 2 → kd (x + 1) = 12 ∧ kn (x + 1) = 40 := by
  intro x hx
  have h1 := kd_lt hx (by decide)
  have : ∀ x, x < 146 → kd x = 2 → kd (x + 1) = 12 ∧ kn (x + 1) = 40 := by decide +kernel
  exact this x h1 hx
theorem W_st : ∀ {x : Nat}, kd x = 6 → kd (x + 1) = 13 ∧ kn (x + 1) = 6 := by
  intro x hx
  have h1 := kd_lt hx (by decide)
  have : ∀ x, x < 146 → kd x = 6 → kd (x + 1) = 13 ∧ kn (x + 1) = 6 := by decide +kernel
  exact this x h1 hx
theorem W_ln : ∀ {x : Nat}, kd x = 6 → kd (x + 2) = 14 ∧ kn (x + 2) = 10 := by
  intro x hx
  have h1 := kd_lt hx (by decide)
  have : ∀ x, x < 146 → kd x = 6 → kd (x + 2) = 14 ∧ kn (x + 2) = 10 := by decide +kernel
  exact this x h1 hx
theorem E_st : ∀ {x j : Nat}, kd x = 13 → j < 6 → kd (x + 2 + j) = 3 := by
  intro x j hx hj
  have h1 := kd_lt hx (by decide)
  have : ∀ x, x < 146 → kd x = 13 → ∀ j, j < 6 → kd (x + 2 + j) = 3 := by decide +kernel
  exact this x h1 hx j hj
theorem E_ln : ∀ {x j : Nat}, kd x = 14 → j < 10 → kd (x + 7 + 2 * j) = 0 := by
  intro x j hx hj
  have h1 := kd_lt hx (by decide)
  have : ∀ x, x < 146 → kd x = 14 → ∀ j, j < 10 → kd (x + 7 + 2 * j) = 0 := by decide +kernel
  exact this x h1 hx j hj
theorem E_sh : ∀ {x j : Nat}, kd x = 15 → j < 4 → kd (x + 2 + 2 * j) = 2 := by
  intro x j hx hj
  have h1 := kd_lt hx (by decide)
  have : ∀ x, x < 146 → kd x = 15 → ∀ j, j < 4 → kd (x + 2 + 2 * j) = 2 := by decide +kernel
  exact this x h1 hx j hj
theorem wm_callVi {g : GE} {d : MD} {pc : Nat} {ls : List (Option Value)} {h : HP} {Q : Option Value → HP → Prop} (d2 : MD) {i b : Nat} (n ci : Nat) (As rest st : List Value) (Q1 : Int32 → HP → Prop) (pc' : Nat) (hm : MO d2) (hp2 : npar d2 n) (hl : Cond.methodLink (dO d) i (dY d2) ∈ lwg) (hi : Cond.instanceMethod (dY d2) ∈ lwg) (hs : Cond.selects (dO d2) (dY d2) (dY d2) ∈ lwg) (hroom : dF d2 + 1 ≤ dF d ∧ 8 + (dN d2 + 11) + dW d2 ≤ dW d) (hd : decode (dB d) pc = .ok (.invokevirtual i, 3)) (hp : pc + 3 = pc') (hst : As.reverse ++ .ref b :: rest = st) (hn : As.length = n) (hrest : (rest.map fun v => v.category).sum ≤ 8) (hb : kd b = ci) (hci : (vwCl.map (fun q => q.1))[ci]? = some (dO d2)) (he : (lg_sl (.ref b :: As)).length ≤ dN d2) (ls2 : List (Option Value)) (he2 : ∀ (i : Nat) (v : Value), ls2[i]? = some (some v) → (ent (.ref b :: As))[i]? = some (some v)) (k1 : Wm g d2 0 ls2 [] h (qi Q1)) (k2 : ∀ (v : Int32) (h' : HP), Q1 v h' → RV d2 (some (.int v)) → Wm g d pc' ls (.int v :: rest) h' Q) : Wm g d pc ls st h Q :=
  wm_callV d2 n ci As rest st (qi Q1) pc' hm hp2 hl hi hs hroom hd hp hst hn hrest hb hci he ls2 he2 k1 (fun r h' hq hr => by obtain ⟨v, rfl, hq⟩ := hq; exact k2 v h' hq hr)
theorem wm_callVl {g : GE} {d : MD} {pc : Nat} {ls : List (Option Value)} {h : HP} {Q : Option Value → HP → Prop} (d2 : MD) {i b : Nat} (n ci : Nat) (As rest st : List Value) (Q1 : Int64 → HP → Prop) (pc' : Nat) (hm : MO d2) (hp2 : npar d2 n) (hl : Cond.methodLink (dO d) i (dY d2) ∈ lwg) (hi : Cond.instanceMethod (dY d2) ∈ lwg) (hs : Cond.selects (dO d2) (dY d2) (dY d2) ∈ lwg) (hroom : dF d2 + 1 ≤ dF d ∧ 8 + (dN d2 + 11) + dW d2 ≤ dW d) (hd : decode (dB d) pc = .ok (.invokevirtual i, 3)) (hp : pc + 3 = pc') (hst : As.reverse ++ .ref b :: rest = st) (hn : As.length = n) (hrest : (rest.map fun v => v.category).sum ≤ 8) (hb : kd b = ci) (hci : (vwCl.map (fun q => q.1))[ci]? = some (dO d2)) (he : (lg_sl (.ref b :: As)).length ≤ dN d2) (ls2 : List (Option Value)) (he2 : ∀ (i : Nat) (v : Value), ls2[i]? = some (some v) → (ent (.ref b :: As))[i]? = some (some v)) (k1 : Wm g d2 0 ls2 [] h (ql Q1)) (k2 : ∀ (v : Int64) (h' : HP), Q1 v h' → RV d2 (some (.long v)) → Wm g d pc' ls (.long v :: rest) h' Q) : Wm g d pc ls st h Q :=
  wm_callV d2 n ci As rest st (ql Q1) pc' hm hp2 hl hi hs hroom hd hp hst hn hrest hb hci he ls2 he2 k1 (fun r h' hq hr => by obtain ⟨v, rfl, hq⟩ := hq; exact k2 v h' hq hr)
theorem wm_callVv {g : GE} {d : MD} {pc : Nat} {ls : List (Option Value)} {h : HP} {Q : Option Value → HP → Prop} (d2 : MD) {i b : Nat} (n ci : Nat) (As rest st : List Value) (Q1 : HP → Prop) (pc' : Nat) (hm : MO d2) (hp2 : npar d2 n) (hl : Cond.methodLink (dO d) i (dY d2) ∈ lwg) (hi : Cond.instanceMethod (dY d2) ∈ lwg) (hs : Cond.selects (dO d2) (dY d2) (dY d2) ∈ lwg) (hroom : dF d2 + 1 ≤ dF d ∧ 8 + (dN d2 + 11) + dW d2 ≤ dW d) (hd : decode (dB d) pc = .ok (.invokevirtual i, 3)) (hp : pc + 3 = pc') (hst : As.reverse ++ .ref b :: rest = st) (hn : As.length = n) (hrest : (rest.map fun v => v.category).sum ≤ 8) (hb : kd b = ci) (hci : (vwCl.map (fun q => q.1))[ci]? = some (dO d2)) (he : (lg_sl (.ref b :: As)).length ≤ dN d2) (ls2 : List (Option Value)) (he2 : ∀ (i : Nat) (v : Value), ls2[i]? = some (some v) → (ent (.ref b :: As))[i]? = some (some v)) (k1 : Wm g d2 0 ls2 [] h (qv Q1)) (k2 : ∀ (h' : HP), Q1 h' → Wm g d pc' ls rest h' Q) : Wm g d pc ls st h Q :=
  wm_callV d2 n ci As rest st (qv Q1) pc' hm hp2 hl hi hs hroom hd hp hst hn hrest hb hci he ls2 he2 k1 (fun r h' hq _ => by obtain ⟨rfl, hq⟩ := hq; exact k2 h' hq)
theorem wm_callSi {g : GE} {d : MD} {pc : Nat} {ls : List (Option Value)} {h : HP} {Q : Option Value → HP → Prop} (d2 : MD) {i : Nat} (n : Nat) (As rest st : List Value) (Q1 : Int32 → HP → Prop) (pc' : Nat) (hm : MO d2) (hp2 : npar d2 n) (hl : Cond.methodLink (dO d) i (dY d2) ∈ lwg) (hi : Cond.static (dY d2) ∈ lwg) (hroom : dF d2 + 1 ≤ dF d ∧ 8 + (dN d2 + 11) + dW d2 ≤ dW d) (hd : decode (dB d) pc = .ok (.invokestatic i, 3)) (hp : pc + 3 = pc') (hst : As.reverse ++ rest = st) (hn : As.length = n) (hrest : (rest.map fun v => v.category).sum ≤ 8) (he : (lg_sl As).length ≤ dN d2) (ls2 : List (Option Value)) (he2 : ∀ (i : Nat) (v : Value), ls2[i]? = some (some v) → (ent As)[i]? = some (some v)) (k1 : Wm g d2 0 ls2 [] h (qi Q1)) (k2 : ∀ (v : Int32) (h' : HP), Q1 v h' → RV d2 (some (.int v)) → Wm g d pc' ls (.int v :: rest) h' Q) : Wm g d pc ls st h Q :=
  wm_callS d2 n As rest st (qi Q1) pc' hm hp2 hl hi hroom hd hp hst hn hrest he ls2 he2 k1 (fun r h' hq hr => by obtain ⟨v, rfl, hq⟩ := hq; exact k2 v h' hq hr)
theorem wm_callSl {g : GE} {d : MD} {pc : Nat} {ls : List (Option Value)} {h : HP} {Q : Option Value → HP → Prop} (d2 : MD) {i : Nat} (n : Nat) (As rest st : List Value) (Q1 : Int64 → HP → Prop) (pc' : Nat) (hm : MO d2) (hp2 : npar d2 n) (hl : Cond.methodLink (dO d) i (dY d2) ∈ lwg) (hi : Cond.static (dY d2) ∈ lwg) (hroom : dF d2 + 1 ≤ dF d ∧ 8 + (dN d2 + 11) + dW d2 ≤ dW d) (hd : decode (dB d) pc = .ok (.invokestatic i, 3)) (hp : pc + 3 = pc') (hst : As.reverse ++ rest = st) (hn : As.length = n) (hrest : (rest.map fun v => v.category).sum ≤ 8) (he : (lg_sl As).length ≤ dN d2) (ls2 : List (Option Value)) (he2 : ∀ (i : Nat) (v : Value), ls2[i]? = some (some v) → (ent As)[i]? = some (some v)) (k1 : Wm g d2 0 ls2 [] h (ql Q1)) (k2 : ∀ (v : Int64) (h' : HP), Q1 v h' → RV d2 (some (.long v)) → Wm g d pc' ls (.long v :: rest) h' Q) : Wm g d pc ls st h Q :=
  wm_callS d2 n As rest st (ql Q1) pc' hm hp2 hl hi hroom hd hp hst hn hrest he ls2 he2 k1 (fun r h' hq hr => by obtain ⟨v, rfl, hq⟩ := hq; exact k2 v h' hq hr)
theorem wm_callSv {g : GE} {d : MD} {pc : Nat} {ls : List (Option Value)} {h : HP} {Q : Option Value → HP → Prop} (d2 : MD) {i : Nat} (n : Nat) (As rest st : List Value) (Q1 : HP → Prop) (pc' : Nat) (hm : MO d2) (hp2 : npar d2 n) (hl : Cond.methodLink (dO d) i (dY d2) ∈ lwg) (hi : Cond.static (dY d2) ∈ lwg) (hroom : dF d2 + 1 ≤ dF d ∧ 8 + (dN d2 + 11) + dW d2 ≤ dW d) (hd : decode (dB d) pc = .ok (.invokestatic i, 3)) (hp : pc + 3 = pc') (hst : As.reverse ++ rest = st) (hn : As.length = n) (hrest : (rest.map fun v => v.category).sum ≤ 8) (he : (lg_sl As).length ≤ dN d2) (ls2 : List (Option Value)) (he2 : ∀ (i : Nat) (v : Value), ls2[i]? = some (some v) → (ent As)[i]? = some (some v)) (k1 : Wm g d2 0 ls2 [] h (qv Q1)) (k2 : ∀ (h' : HP), Q1 h' → Wm g d pc' ls rest h' Q) : Wm g d pc ls st h Q :=
  wm_callS d2 n As rest st (qv Q1) pc' hm hp2 hl hi hroom hd hp hst hn hrest he ls2 he2 k1 (fun r h' hq _ => by obtain ⟨rfl, hq⟩ := hq; exact k2 h' hq)
theorem wm_callNi {g : GE} {d : MD} {pc : Nat} {ls : List (Option Value)} {h : HP} {Q : Option Value → HP → Prop} (d2 : MD) (i : Nat) (n : Nat) (As rest st : List Value) (Q1 : Int32 → HP → Prop) (pc' : Nat) (hm : MO d2) (hp2 : npar d2 n) (hy : dY d2 = yX7_isIn) (hl : (dO d, i) ∈ nmN) (hi : Cond.static (dY d2) ∈ lwg) (hroom : dF d2 + 1 ≤ dF d ∧ 8 + (dN d2 + 11) + dW d2 ≤ dW d) (hd : decode (dB d) pc = .ok (.invokestatic i, 3)) (hp : pc + 3 = pc') (hst : As.reverse ++ rest = st) (hn : As.length = n) (hrest : (rest.map fun v => v.category).sum ≤ 8) (he : (lg_sl As).length ≤ dN d2) (ls2 : List (Option Value)) (he2 : ∀ (i : Nat) (v : Value), ls2[i]? = some (some v) → (ent As)[i]? = some (some v)) (k1 : Wm g d2 0 ls2 [] h (qi Q1)) (k2 : ∀ (v : Int32) (h' : HP), Q1 v h' → RV d2 (some (.int v)) → Wm g d pc' ls (.int v :: rest) h' Q) : Wm g d pc ls st h Q :=
  wm_callN d2 n As rest st (qi Q1) pc' hm hp2 hy hl hi hroom hd hp hst hn hrest he ls2 he2 k1 (fun r h' hq hr => by obtain ⟨v, rfl, hq⟩ := hq; exact k2 v h' hq hr)
theorem wm_callNl {g : GE} {d : MD} {pc : Nat} {ls : List (Option Value)} {h : HP} {Q : Option Value → HP → Prop} (d2 : MD) (i : Nat) (n : Nat) (As rest st : List Value) (Q1 : Int64 → HP → Prop) (pc' : Nat) (hm : MO d2) (hp2 : npar d2 n) (hy : dY d2 = yX7_isIn) (hl : (dO d, i) ∈ nmN) (hi : Cond.static (dY d2) ∈ lwg) (hroom : dF d2 + 1 ≤ dF d ∧ 8 + (dN d2 + 11) + dW d2 ≤ dW d) (hd : decode (dB d) pc = .ok (.invokestatic i, 3)) (hp : pc + 3 = pc') (hst : As.reverse ++ rest = st) (hn : As.length = n) (hrest : (rest.map fun v => v.category).sum ≤ 8) (he : (lg_sl As).length ≤ dN d2) (ls2 : List (Option Value)) (he2 : ∀ (i : Nat) (v : Value), ls2[i]? = some (some v) → (ent As)[i]? = some (some v)) (k1 : Wm g d2 0 ls2 [] h (ql Q1)) (k2 : ∀ (v : Int64) (h' : HP), Q1 v h' → RV d2 (some (.long v)) → Wm g d pc' ls (.long v :: rest) h' Q) : Wm g d pc ls st h Q :=
  wm_callN d2 n As rest st (ql Q1) pc' hm hp2 hy hl hi hroom hd hp hst hn hrest he ls2 he2 k1 (fun r h' hq hr => by obtain ⟨v, rfl, hq⟩ := hq; exact k2 v h' hq hr)
theorem wm_callNv {g : GE} {d : MD} {pc : Nat} {ls : List (Option Value)} {h : HP} {Q : Option Value → HP → Prop} (d2 : MD) (i : Nat) (n : Nat) (As rest st : List Value) (Q1 : HP → Prop) (pc' : Nat) (hm : MO d2) (hp2 : npar d2 n) (hy : dY d2 = yX7_isIn) (hl : (dO d, i) ∈ nmN) (hi : Cond.static (dY d2) ∈ lwg) (hroom : dF d2 + 1 ≤ dF d ∧ 8 + (dN d2 + 11) + dW d2 ≤ dW d) (hd : decode (dB d) pc = .ok (.invokestatic i, 3)) (hp : pc + 3 = pc') (hst : As.reverse ++ rest = st) (hn : As.length = n) (hrest : (rest.map fun v => v.category).sum ≤ 8) (he : (lg_sl As).length ≤ dN d2) (ls2 : List (Option Value)) (he2 : ∀ (i : Nat) (v : Value), ls2[i]? = some (some v) → (ent As)[i]? = some (some v)) (k1 : Wm g d2 0 ls2 [] h (qv Q1)) (k2 : ∀ (h' : HP), Q1 h' → Wm g d pc' ls rest h' Q) : Wm g d pc ls st h Q :=
  wm_callN d2 n As rest st (qv Q1) pc' hm hp2 hy hl hi hroom hd hp hst hn hrest he ls2 he2 k1 (fun r h' hq _ => by obtain ⟨rfl, hq⟩ := hq; exact k2 h' hq)
end
section
theorem lwg_0 {w : Cond} (i : Nat) (h : (k2_sels lw_privs)[i]? = some w) (hg : goodWord w = true) : w ∈ lwg := List.mem_filter.mpr ⟨List.mem_append_left _ (List.mem_of_getElem? h), hg⟩
theorem lwg_1 {w : Cond} (i : Nat) (h : tables_1_1[i]? = some w) (hg : goodWord w = true) : w ∈ lwg := List.mem_filter.mpr ⟨List.mem_append_right _ (List.mem_append_left _ (List.mem_of_getElem? h)), hg⟩
theorem lwg_2 {w : Cond} (i : Nat) (h : tables_1_2[i]? = some w) (hg : goodWord w = true) : w ∈ lwg := List.mem_filter.mpr ⟨List.mem_append_right _ (List.mem_append_right _ (List.mem_append_left _ (List.mem_of_getElem? h))), hg⟩
theorem lwg_3 {w : Cond} (i : Nat) (h : tables_1_3[i]? = some w) (hg : goodWord w = true) : w ∈ lwg := List.mem_filter.mpr ⟨List.mem_append_right _ (List.mem_append_right _ (List.mem_append_right _ (List.mem_append_left _ (List.mem_of_getElem? h)))), hg⟩
theorem lwg_4 {w : Cond} (i : Nat) (h : tables_1_4[i]? = some w) (hg : goodWord w = true) : w ∈ lwg := List.mem_filter.mpr ⟨List.mem_append_right _ (List.mem_append_right _ (List.mem_append_right _ (List.mem_append_right _ (List.mem_append_left _ (List.mem_of_getElem? h))))), hg⟩
theorem lwg_5 {w : Cond} (i : Nat) (h : tables_1_5[i]? = some w) (hg : goodWord w = true) : w ∈ lwg := List.mem_filter.mpr ⟨List.mem_append_right _ (List.mem_append_right _ (List.mem_append_right _ (List.mem_append_right _ (List.mem_append_right _ (List.mem_append_left _ (List.mem_of_getElem? h)))))), hg⟩
theorem lwg_6 {w : Cond} (i : Nat) (h : tables_1_6[i]? = some w) (hg : goodWord w = true) : w ∈ lwg := List.mem_filter.mpr ⟨List.mem_append_right _ (List.mem_append_right _ (List.mem_append_right _ (List.mem_append_right _ (List.mem_append_right _ (List.mem_append_right _ (List.mem_append_left _ (List.mem_of_getElem? h))))))), hg⟩
theorem lwg_7 {w : Cond} (i : Nat) (h : tables_1_7[i]? = some w) (hg : goodWord w = true) : w ∈ lwg := List.mem_filter.mpr ⟨List.mem_append_right _ (List.mem_append_right _ (List.mem_append_right _ (List.mem_append_right _ (List.mem_append_right _ (List.mem_append_right _ (List.mem_append_right _ (List.mem_of_getElem? h))))))), hg⟩
def mX0_become : MD := ((1, 26), RX0, cX0_become, 2, none, yX0_become)
def mX0_room : MD := ((0, 0), RX0, cX0_room, 5, some .int, yX0_room)
def mX0_takes : MD := ((1, 21), RX0, cX0_takes, 1, some .int, yX0_takes)
def mX0_underWay : MD := ((0, 0), RX0, cX0_underWay, 3, some .int, yX0_underWay)
def mX0_setting : MD := ((0, 0), RX0, cX0_setting, 2, some .int, yX0_setting)
def mX0_least : MD := ((0, 0), RX0, cX0_least, 1, some .int, yX0_least)
def mX0_greatest : MD := ((0, 0), RX0, cX0_greatest, 1, some .int, yX0_greatest)
def mX0_replace : MD := ((1, 21), RX0, cX0_replace, 4, some .int, yX0_replace)
def mJ7_fill_53178 : MD := ((0, 0), RJ7, cJ7_fill_53178, 4, none, yJ7_fill_53178)
def mX1_open : MD := ((1, 23), RX1, cX1_open, 3, none, yX1_open)
def mX1_hold : MD := ((0, 0), RX1, cX1_hold, 3, none, yX1_hold)
def mX6_supply : MD := ((0, 0), RX6, cX6_supply, 5, some .int, yX6_supply)
def mX1_node : MD := ((0, 0), RX1, cX1_node, 3, some .int, yX1_node)
def mX1_putArc : MD := ((0, 0), RX1, cX1_putArc, 4, none, yX1_putArc)
def mX1_addArc : MD := ((1, 23), RX1, cX1_addArc, 5, none, yX1_addArc)
def mX3_holds : MD := ((0, 0), RX3, cX3_holds, 2, some .int, yX3_holds)
def mX6_roomAhead : MD := ((1, 24), RX6, cX6_roomAhead, 5, some .int, yX6_roomAhead)
def mX1_addTick : MD := ((2, 48), RX1, cX1_addTick, 6, none, yX1_addTick)
def mX1_findLevels : MD := ((1, 23), RX1, cX1_findLevels, 7, some .boolean, yX1_findLevels)
def mX1_push : MD := ((1, 21), RX1, cX1_push, 5, some .int, yX1_push)
def mX1_leadsDown : MD := ((0, 0), RX1, cX1_leadsDown, 3, some .boolean, yX1_leadsDown)
def mX1_nextDown : MD := ((1, 22), RX1, cX1_nextDown, 4, some .int, yX1_nextDown)
def mX1_fill : MD := ((2, 45), RX1, cX1_fill, 5, none, yX1_fill)
def mX1_flowBehind : MD := ((3, 73), RX1, cX1_flowBehind, 3, some .int, yX1_flowBehind)
def mX1_searchNear : MD := ((1, 23), RX1, cX1_searchNear, 6, none, yX1_searchNear)
def mX1_ticksNear : MD := ((1, 22), RX1, cX1_ticksNear, 4, some .int, yX1_ticksNear)
def mX1_stationsNear : MD := ((2, 45), RX1, cX1_stationsNear, 3, some .int, yX1_stationsNear)
def mX1_canStillSendFrom : MD := ((1, 22), RX1, cX1_canStillSendFrom, 2, some .boolean, yX1_canStillSendFrom)
def mX1_peak : MD := ((1, 21), RX1, cX1_peak, 6, some .int, yX1_peak)
def mX1_busyLines : MD := ((2, 46), RX1, cX1_busyLines, 3, some .int, yX1_busyLines)
def mX2_hasBits : MD := ((0, 0), RX2, cX2_hasBits, 1, some .boolean, yX2_hasBits)
def mJ7_fill_d0a16 : MD := ((0, 0), RJ7, cJ7_fill_d0a16, 5, none, yJ7_fill_d0a16)
def mX2_renew : MD := ((1, 24), RX2, cX2_renew, 3, none, yX2_renew)
def mX2_put : MD := ((0, 0), RX2, cX2_put, 4, none, yX2_put)
def mX2_hasPart : MD := ((0, 0), RX2, cX2_hasPart, 3, some .boolean, yX2_hasPart)
def mX2_entry : MD := ((0, 0), RX2, cX2_entry, 3, some .int, yX2_entry)
def mX3_become : MD := ((0, 0), RX3, cX3_become, 2, none, yX3_become)
def mX3_greatest : MD := ((0, 0), RX3, cX3_greatest, 1, some .int, yX3_greatest)
def mX3_replace : MD := ((0, 0), RX3, cX3_replace, 4, some .int, yX3_replace)
def mX4_tail : MD := ((0, 0), RX4, cX4_tail, 2, some .int, yX4_tail)
def mX4_room : MD := ((0, 0), RX4, cX4_room, 2, some .int, yX4_room)
def mX4_head : MD := ((1, 21), RX4, cX4_head, 2, some .int, yX4_head)
def mX4_improve : MD := ((2, 42), RX4, cX4_improve, 5, some .boolean, yX4_improve)
def mX4_findQuickest : MD := ((3, 66), RX4, cX4_findQuickest, 6, some .boolean, yX4_findQuickest)
def mX4_narrowest : MD := ((1, 21), RX4, cX4_narrowest, 6, some .int, yX4_narrowest)
def mX4_push : MD := ((1, 21), RX4, cX4_push, 8, none, yX4_push)
def mX7_isIn : MD := ((0, 0), RX7, cX7_isIn, 3, some .boolean, yX7_isIn)
def mX4_solve : MD := ((4, 91), RX4, cX4_solve, 6, none, yX4_solve)
def mX4_behind : MD := ((0, 0), RX4, cX4_behind, 6, some .long, yX4_behind)
def mX4_ticksUntil : MD := ((1, 25), RX4, cX4_ticksUntil, 9, some .long, yX4_ticksUntil)
def mX5_add : MD := ((0, 0), RX5, cX5_add, 2, none, yX5_add)
def mX5_sortOf : MD := ((0, 0), RX5, cX5_sortOf, 1, some .int, yX5_sortOf)
def mX5_valueOfToken : MD := ((0, 0), RX5, cX5_valueOfToken, 3, some .int, yX5_valueOfToken)
def mX5_readToken : MD := ((1, 22), RX5, cX5_readToken, 1, none, yX5_readToken)
def mX5_start : MD := ((2, 42), RX5, cX5_start, 1, none, yX5_start)
def mX5_fail : MD := ((0, 0), RX5, cX5_fail, 1, none, yX5_fail)
def mX5_takeSign : MD := ((2, 42), RX5, cX5_takeSign, 1, some .boolean, yX5_takeSign)
def mX5_isWord : MD := ((5, 140), RX5, cX5_isWord, 3, some .boolean, yX5_isWord)
def mX5_takeWord : MD := ((6, 162), RX5, cX5_takeWord, 3, some .boolean, yX5_takeWord)
def mX5_takeNumber : MD := ((2, 42), RX5, cX5_takeNumber, 4, some .int, yX5_takeNumber)
def mX5_takeOption : MD := ((7, 184), RX5, cX5_takeOption, 5, some .int, yX5_takeOption)
def mX5_stationKind : MD := ((6, 162), RX5, cX5_stationKind, 1, some .int, yX5_stationKind)
def mX5_lineKind : MD := ((6, 162), RX5, cX5_lineKind, 1, some .int, yX5_lineKind)
def mX6_addStation : MD := ((0, 0), RX6, cX6_addStation, 4, some .int, yX6_addStation)
def mX5_readStation : MD := ((8, 208), RX5, cX5_readStation, 5, none, yX5_readStation)
def mX6_addLine : MD := ((1, 23), RX6, cX6_addLine, 5, some .int, yX6_addLine)
def mX5_readLine : MD := ((8, 208), RX5, cX5_readLine, 7, none, yX5_readLine)
def mX5_readItem : MD := ((9, 234), RX5, cX5_readItem, 4, none, yX5_readItem)
def mX6_become : MD := ((2, 47), RX6, cX6_become, 3, none, yX6_become)
def mX6_hasStation : MD := ((1, 22), RX6, cX6_hasStation, 2, some .boolean, yX6_hasStation)
def mX6_hasLine : MD := ((1, 22), RX6, cX6_hasLine, 2, some .boolean, yX6_hasLine)
def mX6_areTwo : MD := ((2, 43), RX6, cX6_areTwo, 3, some .boolean, yX6_areTwo)
def mX6_dispatch : MD := ((2, 41), RX6, cX6_dispatch, 7, some .boolean, yX6_dispatch)
def mX6_passTick : MD := ((1, 21), RX6, cX6_passTick, 4, none, yX6_passTick)
def mX6_follow : MD := ((3, 67), RX6, cX6_follow, 7, some .int, yX6_follow)
def mX6_allStock : MD := ((0, 0), RX6, cX6_allStock, 3, some .int, yX6_allStock)
def mX6_allUnderWay : MD := ((1, 22), RX6, cX6_allUnderWay, 3, some .int, yX6_allUnderWay)
def mX6_allGoods : MD := ((2, 44), RX6, cX6_allGoods, 1, some .int, yX6_allGoods)
def mX6_allSent : MD := ((0, 0), RX6, cX6_allSent, 3, some .int, yX6_allSent)
def mX6_allRoom : MD := ((1, 24), RX6, cX6_allRoom, 3, some .int, yX6_allRoom)
def mX6_losingStations : MD := ((1, 21), RX6, cX6_losingStations, 3, some .int, yX6_losingStations)
def mX6_openLines : MD := ((1, 24), RX6, cX6_openLines, 4, some .int, yX6_openLines)
def mX6_comingTo : MD := ((1, 22), RX6, cX6_comingTo, 4, some .int, yX6_comingTo)
def mX6_costOutside : MD := ((1, 24), RX6, cX6_costOutside, 7, some .int, yX6_costOutside)
def mX6_costOfLines : MD := ((2, 48), RX6, cX6_costOfLines, 8, some .int, yX6_costOfLines)
def mX7_found : MD := ((1, 22), RX7, cX7_found, 3, some .int, yX7_found)
def mX7_station : MD := ((2, 44), RX7, cX7_station, 3, some .int, yX7_station)
def mX7_line : MD := ((3, 65), RX7, cX7_line, 7, some .int, yX7_line)
def mX7_of : MD := ((2, 45), RX7, cX7_of, 4, some .int, yX7_of)
def mX7_its : MD := ((2, 44), RX7, cX7_its, 4, some .int, yX7_its)
def mX7_set : MD := ((2, 44), RX7, cX7_set, 4, some .int, yX7_set)
def mX7_change : MD := ((3, 65), RX7, cX7_change, 6, some .int, yX7_change)
def mX7_isUnder : MD := ((1, 22), RX7, cX7_isUnder, 5, some .boolean, yX7_isUnder)
def mX7_as : MD := ((2, 46), RX7, cX7_as, 4, some .int, yX7_as)
def mX7_stands : MD := ((2, 46), RX7, cX7_stands, 4, some .int, yX7_stands)
def mX7_send : MD := ((3, 67), RX7, cX7_send, 3, some .int, yX7_send)
def mX7_go : MD := ((2, 44), RX7, cX7_go, 3, some .int, yX7_go)
def mX7_now : MD := ((2, 47), RX7, cX7_now, 2, some .int, yX7_now)
def mX7_isAsked : MD := ((2, 43), RX7, cX7_isAsked, 3, some .boolean, yX7_isAsked)
def mX7_mostIn : MD := ((4, 95), RX7, cX7_mostIn, 4, some .int, yX7_mostIn)
def mX7_most : MD := ((5, 118), RX7, cX7_most, 3, some .int, yX7_most)
def mX7_ticksUntil : MD := ((4, 95), RX7, cX7_ticksUntil, 4, some .int, yX7_ticksUntil)
def mX7_quick : MD := ((5, 118), RX7, cX7_quick, 4, some .int, yX7_quick)
def mX7_all : MD := ((5, 118), RX7, cX7_all, 3, some .int, yX7_all)
def mX7_near : MD := ((5, 118), RX7, cX7_near, 4, some .int, yX7_near)
def mX7_sheetFault : MD := ((1, 22), RX7, cX7_sheetFault, 2, some .int, yX7_sheetFault)
def mX7_cost : MD := ((3, 75), RX7, cX7_cost, 6, some .int, yX7_cost)
def mX7_mostHeld : MD := ((4, 95), RX7, cX7_mostHeld, 5, some .int, yX7_mostHeld)
def mX7_lose : MD := ((5, 119), RX7, cX7_lose, 8, some .int, yX7_lose)
def mX7_mostWidened : MD := ((5, 118), RX7, cX7_mostWidened, 4, some .int, yX7_mostWidened)
def mX7_widen : MD := ((6, 141), RX7, cX7_widen, 8, some .int, yX7_widen)
def mX7_held : MD := ((5, 119), RX7, cX7_held, 9, some .int, yX7_held)
def mX7_begin : MD := ((5, 118), RX7, cX7_begin, 4, some .int, yX7_begin)
def mX7_kind : MD := ((5, 118), RX7, cX7_kind, 8, some .int, yX7_kind)
def mX7_goal : MD := ((5, 118), RX7, cX7_goal, 6, some .int, yX7_goal)
def mX7_steady : MD := ((5, 116), RX7, cX7_steady, 6, some .int, yX7_steady)
def mX7_rate : MD := ((5, 116), RX7, cX7_rate, 3, some .int, yX7_rate)
def mX7_gain : MD := ((5, 116), RX7, cX7_gain, 4, some .int, yX7_gain)
def mX7_reach : MD := ((5, 116), RX7, cX7_reach, 6, some .int, yX7_reach)
def mX7_feed : MD := ((2, 44), RX7, cX7_feed, 4, some .int, yX7_feed)
def mX7_wipe : MD := ((0, 0), RX7, cX7_wipe, 2, some .int, yX7_wipe)
def mX7_text : MD := ((10, 257), RX7, cX7_text, 4, some .int, yX7_text)
def mX7_sheet : MD := ((2, 46), RX7, cX7_sheet, 4, some .int, yX7_sheet)
def mX7_write : MD := ((2, 44), RX7, cX7_write, 9, some .long, yX7_write)
def mX7_copy : MD := ((2, 44), RX7, cX7_copy, 8, some .int, yX7_copy)
def mX7_lays : MD := ((2, 44), RX7, cX7_lays, 8, some .int, yX7_lays)
def mX7_book : MD := ((4, 95), RX7, cX7_book, 7, some .int, yX7_book)
def mX7_planFault : MD := ((3, 65), RX7, cX7_planFault, 5, some .int, yX7_planFault)
def mX7_follow : MD := ((4, 93), RX7, cX7_follow, 5, some .int, yX7_follow)
def mX7_replay : MD := ((5, 117), RX7, cX7_replay, 5, some .int, yX7_replay)
def mX7_run : MD := ((5, 117), RX7, cX7_run, 6, some .int, yX7_run)
def mX7_image : MD := ((3, 69), RX7, cX7_image, 1, some .int, yX7_image)
def mX7_undo : MD := ((3, 69), RX7, cX7_undo, 1, some .int, yX7_undo)
def mX7_tear : MD := ((0, 0), RX7, cX7_tear, 2, some .int, yX7_tear)
def mX7_count : MD := ((3, 64), RX7, cX7_count, 2, some .int, yX7_count)
def mX7_status : MD := ((2, 44), RX7, cX7_status, 4, some .int, yX7_status)
def mX8_in : MD := ((0, 0), RX8, cX8_in, 6, some .boolean, yX8_in)
def mX8_finds : MD := ((0, 0), RX8, cX8_finds, 2, some .int, yX8_finds)
def mX8_at : MD := ((0, 0), RX8, cX8_at, 3, some .int, yX8_at)
def mX8_isStation : MD := ((1, 25), RX8, cX8_isStation, 2, some .boolean, yX8_isStation)
def mX8_isLine : MD := ((1, 25), RX8, cX8_isLine, 2, some .boolean, yX8_isLine)
def mX8_holds : MD := ((0, 0), RX8, cX8_holds, 3, some .int, yX8_holds)
def mX8_roomBy : MD := ((1, 22), RX8, cX8_roomBy, 6, some .int, yX8_roomBy)
def mX8_room : MD := ((2, 47), RX8, cX8_room, 3, some .int, yX8_room)
def mX8_takes : MD := ((1, 22), RX8, cX8_takes, 3, some .int, yX8_takes)
def mX8_onWay : MD := ((0, 0), RX8, cX8_onWay, 4, some .int, yX8_onWay)
def mX8_sumOf : MD := ((0, 0), RX8, cX8_sumOf, 5, some .int, yX8_sumOf)
def mX8_allOnWay : MD := ((1, 24), RX8, cX8_allOnWay, 1, some .int, yX8_allOnWay)
def mX8_goods : MD := ((2, 44), RX8, cX8_goods, 1, some .int, yX8_goods)
def mX8_addStation : MD := ((0, 0), RX8, cX8_addStation, 4, none, yX8_addStation)
def mX8_addLine : MD := ((0, 0), RX8, cX8_addLine, 6, none, yX8_addLine)
def mX8_station : MD := ((1, 25), RX8, cX8_station, 3, some .int, yX8_station)
def mX8_line : MD := ((2, 46), RX8, cX8_line, 6, some .int, yX8_line)
def mX8_comesTo : MD := ((1, 23), RX8, cX8_comesTo, 4, some .int, yX8_comesTo)
def mX8_of : MD := ((2, 46), RX8, cX8_of, 3, some .int, yX8_of)
def mX8_its : MD := ((3, 69), RX8, cX8_its, 3, some .int, yX8_its)
def mX8_set : MD := ((2, 46), RX8, cX8_set, 5, some .int, yX8_set)
def mX8_mayBe : MD := ((2, 46), RX8, cX8_mayBe, 4, some .boolean, yX8_mayBe)
def mX8_change : MD := ((3, 69), RX8, cX8_change, 5, some .int, yX8_change)
def mX8_as : MD := ((2, 46), RX8, cX8_as, 5, some .int, yX8_as)
def mX8_stands : MD := ((2, 46), RX8, cX8_stands, 4, some .int, yX8_stands)
def mX8_canSend : MD := ((3, 69), RX8, cX8_canSend, 4, some .boolean, yX8_canSend)
def mX8_sends : MD := ((2, 44), RX8, cX8_sends, 3, none, yX8_sends)
def mX8_send : MD := ((4, 92), RX8, cX8_send, 3, some .int, yX8_send)
def mX8_oneTick : MD := ((1, 22), RX8, cX8_oneTick, 3, none, yX8_oneTick)
def mX8_go : MD := ((2, 44), RX8, cX8_go, 3, some .int, yX8_go)
def mX8_roomOfAll : MD := ((3, 69), RX8, cX8_roomOfAll, 3, some .int, yX8_roomOfAll)
def mX8_losing : MD := ((1, 22), RX8, cX8_losing, 3, some .int, yX8_losing)
def mX8_openLines : MD := ((4, 92), RX8, cX8_openLines, 3, some .int, yX8_openLines)
def mX8_now : MD := ((5, 114), RX8, cX8_now, 2, some .int, yX8_now)
def mX8_layOut : MD := ((2, 47), RX8, cX8_layOut, 8, none, yX8_layOut)
def mX8_meets : MD := ((0, 0), RX8, cX8_meets, 3, none, yX8_meets)
def mX8_spreads : MD := ((1, 22), RX8, cX8_spreads, 8, some .int, yX8_spreads)
def mX8_searches : MD := ((2, 49), RX8, cX8_searches, 5, some .int, yX8_searches)
def mX8_behind : MD := ((1, 22), RX8, cX8_behind, 5, some .int, yX8_behind)
def mX8_leftFor : MD := ((0, 0), RX8, cX8_leftFor, 5, some .int, yX8_leftFor)
def mX8_moves : MD := ((0, 0), RX8, cX8_moves, 5, none, yX8_moves)
def mX8_brings : MD := ((3, 73), RX8, cX8_brings, 11, some .int, yX8_brings)
def mX8_ownTill : MD := ((0, 0), RX8, cX8_ownTill, 5, some .int, yX8_ownTill)
def mX8_mostBy : MD := ((4, 103), RX8, cX8_mostBy, 8, some .int, yX8_mostBy)
def mX8_mostOf : MD := ((5, 130), RX8, cX8_mostOf, 3, some .int, yX8_mostOf)
def mX8_isAhead : MD := ((1, 25), RX8, cX8_isAhead, 1, some .boolean, yX8_isAhead)
def mX8_most : MD := ((6, 152), RX8, cX8_most, 3, some .int, yX8_most)
def mX8_quickOf : MD := ((4, 103), RX8, cX8_quickOf, 5, some .int, yX8_quickOf)
def mX8_quick : MD := ((5, 127), RX8, cX8_quick, 4, some .int, yX8_quick)
def mX8_all : MD := ((5, 127), RX8, cX8_all, 3, some .int, yX8_all)
def mX8_near : MD := ((6, 152), RX8, cX8_near, 6, some .int, yX8_near)
def mX8_isSheet : MD := ((1, 25), RX8, cX8_isSheet, 1, some .boolean, yX8_isSheet)
def mX8_cost : MD := ((3, 74), RX8, cX8_cost, 7, some .int, yX8_cost)
def mX8_lose : MD := ((5, 130), RX8, cX8_lose, 7, some .int, yX8_lose)
def mX8_widen : MD := ((6, 152), RX8, cX8_widen, 7, some .int, yX8_widen)
def mX8_held : MD := ((6, 152), RX8, cX8_held, 8, some .int, yX8_held)
def mX8_begin : MD := ((6, 152), RX8, cX8_begin, 6, some .int, yX8_begin)
def mX8_kind : MD := ((6, 152), RX8, cX8_kind, 9, some .int, yX8_kind)
def mX8_goal : MD := ((6, 152), RX8, cX8_goal, 6, some .int, yX8_goal)
def mX8_nearer : MD := ((0, 0), RX8, cX8_nearer, 5, some .boolean, yX8_nearer)
def mX8_measures : MD := ((3, 69), RX8, cX8_measures, 4, none, yX8_measures)
def mX8_stepBack : MD := ((1, 22), RX8, cX8_stepBack, 2, some .int, yX8_stepBack)
def mX8_findsGains : MD := ((4, 92), RX8, cX8_findsGains, 6, none, yX8_findsGains)
def mX8_steadyBehind : MD := ((0, 0), RX8, cX8_steadyBehind, 6, some .long, yX8_steadyBehind)
def mX8_areTwo : MD := ((2, 46), RX8, cX8_areTwo, 3, some .boolean, yX8_areTwo)
def mX8_steady : MD := ((5, 117), RX8, cX8_steady, 6, some .int, yX8_steady)
def mX8_rate : MD := ((5, 117), RX8, cX8_rate, 3, some .int, yX8_rate)
def mX8_gain : MD := ((5, 117), RX8, cX8_gain, 4, some .int, yX8_gain)
def mX8_reach : MD := ((5, 117), RX8, cX8_reach, 10, some .int, yX8_reach)
def mX8_feed : MD := ((1, 25), RX8, cX8_feed, 4, some .int, yX8_feed)
def mX8_wipe : MD := ((0, 0), RX8, cX8_wipe, 2, some .int, yX8_wipe)
def mX8_byteAt : MD := ((0, 0), RX8, cX8_byteAt, 2, some .int, yX8_byteAt)
def mX8_isWordFrom : MD := ((1, 21), RX8, cX8_isWordFrom, 4, some .boolean, yX8_isWordFrom)
def mX8_next : MD := ((2, 44), RX8, cX8_next, 3, none, yX8_next)
def mX8_isWord : MD := ((0, 0), RX8, cX8_isWord, 2, some .boolean, yX8_isWord)
def mX8_takesNumber : MD := ((3, 66), RX8, cX8_takesNumber, 3, some .boolean, yX8_takesNumber)
def mX8_perhaps : MD := ((4, 88), RX8, cX8_perhaps, 5, some .boolean, yX8_perhaps)
def mX8_readsStation : MD := ((5, 112), RX8, cX8_readsStation, 3, some .boolean, yX8_readsStation)
def mX8_readsLine : MD := ((5, 112), RX8, cX8_readsLine, 4, some .boolean, yX8_readsLine)
def mX8_readsItem : MD := ((6, 135), RX8, cX8_readsItem, 2, some .boolean, yX8_readsItem)
def mX8_text : MD := ((7, 156), RX8, cX8_text, 5, some .int, yX8_text)
def mX8_narrow : MD := ((0, 0), RX8, cX8_narrow, 3, some .long, yX8_narrow)
def mX8_sheet : MD := ((2, 45), RX8, cX8_sheet, 5, some .int, yX8_sheet)
def mX8_write : MD := ((2, 45), RX8, cX8_write, 7, some .long, yX8_write)
def mX8_copy : MD := ((2, 45), RX8, cX8_copy, 7, some .int, yX8_copy)
def mX8_lays : MD := ((2, 45), RX8, cX8_lays, 6, some .int, yX8_lays)
def mX8_book : MD := ((4, 103), RX8, cX8_book, 5, some .int, yX8_book)
def mX8_sendsAll : MD := ((4, 92), RX8, cX8_sendsAll, 7, some .int, yX8_sendsAll)
def mX8_goesBy : MD := ((5, 118), RX8, cX8_goesBy, 5, some .int, yX8_goesBy)
def mX8_puts : MD := ((0, 0), RX8, cX8_puts, 5, some .int, yX8_puts)
def mX8_keeps : MD := ((1, 24), RX8, cX8_keeps, 3, none, yX8_keeps)
def mX8_gets : MD := ((0, 0), RX8, cX8_gets, 5, some .int, yX8_gets)
def mX8_comesBack : MD := ((1, 24), RX8, cX8_comesBack, 3, none, yX8_comesBack)
def mX8_plans : MD := ((6, 142), RX8, cX8_plans, 7, some .int, yX8_plans)
def mX8_replay : MD := ((7, 168), RX8, cX8_replay, 4, some .int, yX8_replay)
def mX8_run : MD := ((7, 168), RX8, cX8_run, 4, some .int, yX8_run)
def mX8_image : MD := ((2, 46), RX8, cX8_image, 1, some .int, yX8_image)
def mX8_undo : MD := ((2, 46), RX8, cX8_undo, 1, some .int, yX8_undo)
def mX8_tear : MD := ((0, 0), RX8, cX8_tear, 2, some .int, yX8_tear)
def mX8_count : MD := ((3, 64), RX8, cX8_count, 2, some .int, yX8_count)
def mX8_status : MD := ((1, 25), RX8, cX8_status, 2, some .int, yX8_status)
def mJ0_coder_7d493 : MD := ((0, 0), RJ0, cJ0_coder_7d493, 1, some .byte, yJ0_coder_7d493)
def mJ0_isLatin1_aae02 : MD := ((0, 0), RJ0, cJ0_isLatin1_aae02, 1, some .boolean, yJ0_isLatin1_aae02)
def mJ0_length_8abf5 : MD := ((1, 20), RJ0, cJ0_length_8abf5, 1, some .int, yJ0_length_8abf5)
def mJ3_checkIndex_8e157 : MD := ((0, 0), RJ3, cJ3_checkIndex_8e157, 3, some .int, yJ3_checkIndex_8e157)
def mJ0_checkIndex_df160 : MD := ((1, 22), RJ0, cJ0_checkIndex_df160, 2, none, yJ0_checkIndex_df160)
def mJ1_charAt_3b067 : MD := ((2, 43), RJ1, cJ1_charAt_3b067, 2, some .char, yJ1_charAt_3b067)
def mJ0_charAt_5068e : MD := ((3, 64), RJ0, cJ0_charAt_5068e, 2, some .char, yJ0_charAt_5068e)
theorem cl_RX4_103 : Cond.constantLong RX4 103 120 ∈ lwg := lwg_4 43 (by decide +kernel) rfl
theorem cl_RX4_105 : Cond.constantLong RX4 105 2 ∈ lwg := lwg_4 44 (by decide +kernel) rfl
theorem cl_RX7_265 : Cond.constantLong RX7 265 2147483647 ∈ lwg := lwg_4 25 (by decide +kernel) rfl
theorem cl_RX7_327 : Cond.constantLong RX7 327 999 ∈ lwg := lwg_4 225 (by decide +kernel) rfl
theorem cl_RX8_125 : Cond.constantLong RX8 125 3 ∈ lwg := lwg_5 165 (by decide +kernel) rfl
theorem cl_RX8_127 : Cond.constantLong RX8 127 999 ∈ lwg := lwg_5 169 (by decide +kernel) rfl
theorem cl_RX8_138 : Cond.constantLong RX8 138 5 ∈ lwg := lwg_5 184 (by decide +kernel) rfl
theorem cl_RX8_144 : Cond.constantLong RX8 144 99 ∈ lwg := lwg_5 189 (by decide +kernel) rfl
theorem cl_RX8_146 : Cond.constantLong RX8 146 9 ∈ lwg := lwg_5 190 (by decide +kernel) rfl
theorem cl_RX8_166 : Cond.constantLong RX8 166 11 ∈ lwg := lwg_5 224 (by decide +kernel) rfl
theorem cl_RX8_174 : Cond.constantLong RX8 174 2 ∈ lwg := lwg_6 1 (by decide +kernel) rfl
theorem cl_RX8_176 : Cond.constantLong RX8 176 99999 ∈ lwg := lwg_6 10 (by decide +kernel) rfl
theorem cl_RX8_183 : Cond.constantLong RX8 183 9999 ∈ lwg := lwg_6 24 (by decide +kernel) rfl
theorem cl_RX8_197 : Cond.constantLong RX8 197 60 ∈ lwg := lwg_6 38 (by decide +kernel) rfl
theorem cl_RX8_246 : Cond.constantLong RX8 246 24 ∈ lwg := lwg_6 74 (by decide +kernel) rfl
theorem cl_RX8_265 : Cond.constantLong RX8 265 (-1) ∈ lwg := lwg_6 148 (by decide +kernel) rfl
theorem cl_RX8_290 : Cond.constantLong RX8 290 2147483647 ∈ lwg := lwg_6 202 (by decide +kernel) rfl
theorem cl_RX8_293 : Cond.constantLong RX8 293 120 ∈ lwg := lwg_6 212 (by decide +kernel) rfl
theorem cl_RX8_295 : Cond.constantLong RX8 295 3000000000 ∈ lwg := lwg_6 217 (by decide +kernel) rfl
theorem cl_RX8_297 : Cond.constantLong RX8 297 4 ∈ lwg := lwg_6 222 (by decide +kernel) rfl
theorem cl_RX8_314 : Cond.constantLong RX8 314 97 ∈ lwg := lwg_6 239 (by decide +kernel) rfl
theorem cl_RX8_316 : Cond.constantLong RX8 316 122 ∈ lwg := lwg_7 0 (by decide +kernel) rfl
theorem cl_RX8_318 : Cond.constantLong RX8 318 48 ∈ lwg := lwg_7 1 (by decide +kernel) rfl
theorem cl_RX8_320 : Cond.constantLong RX8 320 57 ∈ lwg := lwg_7 2 (by decide +kernel) rfl
theorem cl_RX8_386 : Cond.constantLong RX8 386 7 ∈ lwg := lwg_7 111 (by decide +kernel) rfl
theorem co_RX0_55 : Cond.constant RX0 55 99999 ∈ lwg := lwg_2 186 (by decide +kernel) rfl
theorem co_RX1_131 : Cond.constant RX1 131 2147483647 ∈ lwg := lwg_3 60 (by decide +kernel) rfl
theorem co_RX1_149 : Cond.constant RX1 149 1000000 ∈ lwg := lwg_3 81 (by decide +kernel) rfl
theorem co_RX3_21 : Cond.constant RX3 21 99999 ∈ lwg := lwg_2 132 (by decide +kernel) rfl
theorem co_RX4_59 : Cond.constant RX4 59 1000000 ∈ lwg := lwg_3 228 (by decide +kernel) rfl
theorem co_RX4_97 : Cond.constant RX4 97 2147483647 ∈ lwg := lwg_4 14 (by decide +kernel) rfl
theorem co_RX6_75 : Cond.constant RX6 75 99999 ∈ lwg := lwg_2 119 (by decide +kernel) rfl
theorem co_RX6_143 : Cond.constant RX6 143 2147483647 ∈ lwg := lwg_3 149 (by decide +kernel) rfl
theorem co_RX7_58 : Cond.constant RX7 58 (-1000000001) ∈ lwg := lwg_2 92 (by decide +kernel) rfl
theorem co_RX7_67 : Cond.constant RX7 67 (-1000000002) ∈ lwg := lwg_2 97 (by decide +kernel) rfl
theorem co_RX7_167 : Cond.constant RX7 167 (-1000000003) ∈ lwg := lwg_2 201 (by decide +kernel) rfl
theorem co_RX7_175 : Cond.constant RX7 175 (-1000000005) ∈ lwg := lwg_2 218 (by decide +kernel) rfl
theorem co_RX7_176 : Cond.constant RX7 176 99999 ∈ lwg := lwg_2 223 (by decide +kernel) rfl
theorem co_RX7_211 : Cond.constant RX7 211 (-1000000004) ∈ lwg := lwg_3 103 (by decide +kernel) rfl
theorem co_RX7_267 : Cond.constant RX7 267 (-1000000008) ∈ lwg := lwg_4 26 (by decide +kernel) rfl
theorem co_RX7_304 : Cond.constant RX7 304 (-1000000007) ∈ lwg := lwg_4 203 (by decide +kernel) rfl
theorem co_RX7_317 : Cond.constant RX7 317 (-1000000006) ∈ lwg := lwg_3 134 (by decide +kernel) rfl
theorem co_RX8_96 : Cond.constant RX8 96 (-1000000001) ∈ lwg := lwg_5 170 (by decide +kernel) rfl
theorem co_RX8_108 : Cond.constant RX8 108 99999 ∈ lwg := lwg_5 195 (by decide +kernel) rfl
theorem co_RX8_133 : Cond.constant RX8 133 (-1000000002) ∈ lwg := lwg_5 175 (by decide +kernel) rfl
theorem co_RX8_182 : Cond.constant RX8 182 (-1000000003) ∈ lwg := lwg_6 15 (by decide +kernel) rfl
theorem co_RX8_189 : Cond.constant RX8 189 (-1000000005) ∈ lwg := lwg_6 29 (by decide +kernel) rfl
theorem co_RX8_257 : Cond.constant RX8 257 (-1000000004) ∈ lwg := lwg_6 127 (by decide +kernel) rfl
theorem co_RX8_264 : Cond.constant RX8 264 (-1000000006) ∈ lwg := lwg_6 147 (by decide +kernel) rfl
theorem co_RX8_267 : Cond.constant RX8 267 1000000 ∈ lwg := lwg_6 189 (by decide +kernel) rfl
theorem co_RX8_292 : Cond.constant RX8 292 (-1000000008) ∈ lwg := lwg_6 203 (by decide +kernel) rfl
theorem co_RX8_353 : Cond.constant RX8 353 (-1000000007) ∈ lwg := lwg_7 35 (by decide +kernel) rfl
theorem fl_RX0_9 : FL RX0 9 0 9 := ⟨_, rfl, by decide, lwg_1 95 (by decide +kernel) rfl⟩
theorem fl_RX0_15 : FL RX0 15 0 0 := ⟨_, rfl, by decide, lwg_1 62 (by decide +kernel) rfl⟩
theorem fl_RX0_19 : FL RX0 19 0 1 := ⟨_, rfl, by decide, lwg_1 65 (by decide +kernel) rfl⟩
theorem fl_RX0_22 : FL RX0 22 0 2 := ⟨_, rfl, by decide, lwg_1 70 (by decide +kernel) rfl⟩
theorem fl_RX0_25 : FL RX0 25 0 3 := ⟨_, rfl, by decide, lwg_1 75 (by decide +kernel) rfl⟩
theorem fl_RX0_28 : FL RX0 28 0 4 := ⟨_, rfl, by decide, lwg_1 78 (by decide +kernel) rfl⟩
theorem fl_RX0_31 : FL RX0 31 0 5 := ⟨_, rfl, by decide, lwg_1 81 (by decide +kernel) rfl⟩
theorem fl_RX0_34 : FL RX0 34 0 6 := ⟨_, rfl, by decide, lwg_1 84 (by decide +kernel) rfl⟩
theorem fl_RX0_37 : FL RX0 37 0 7 := ⟨_, rfl, by decide, lwg_1 88 (by decide +kernel) rfl⟩
theorem fl_RX0_40 : FL RX0 40 0 8 := ⟨_, rfl, by decide, lwg_1 91 (by decide +kernel) rfl⟩
theorem fl_RX1_11 : FL RX1 11 1 7 := ⟨_, rfl, by decide, lwg_1 169 (by decide +kernel) rfl⟩
theorem fl_RX1_15 : FL RX1 15 1 8 := ⟨_, rfl, by decide, lwg_1 170 (by decide +kernel) rfl⟩
theorem fl_RX1_18 : FL RX1 18 1 9 := ⟨_, rfl, by decide, lwg_1 171 (by decide +kernel) rfl⟩
theorem fl_RX1_21 : FL RX1 21 1 10 := ⟨_, rfl, by decide, lwg_1 172 (by decide +kernel) rfl⟩
theorem fl_RX1_24 : FL RX1 24 1 11 := ⟨_, rfl, by decide, lwg_1 173 (by decide +kernel) rfl⟩
theorem fl_RX1_27 : FL RX1 27 1 12 := ⟨_, rfl, by decide, lwg_1 174 (by decide +kernel) rfl⟩
theorem fl_RX1_30 : FL RX1 30 1 13 := ⟨_, rfl, by decide, lwg_1 175 (by decide +kernel) rfl⟩
theorem fl_RX1_33 : FL RX1 33 1 14 := ⟨_, rfl, by decide, lwg_1 176 (by decide +kernel) rfl⟩
theorem fl_RX1_36 : FL RX1 36 1 15 := ⟨_, rfl, by decide, lwg_1 177 (by decide +kernel) rfl⟩
theorem fl_RX1_39 : FL RX1 39 1 16 := ⟨_, rfl, by decide, lwg_1 178 (by decide +kernel) rfl⟩
theorem fl_RX1_42 : FL RX1 42 1 0 := ⟨_, rfl, by decide, lwg_1 162 (by decide +kernel) rfl⟩
theorem fl_RX1_46 : FL RX1 46 1 1 := ⟨_, rfl, by decide, lwg_1 163 (by decide +kernel) rfl⟩
theorem fl_RX1_50 : FL RX1 50 1 2 := ⟨_, rfl, by decide, lwg_1 164 (by decide +kernel) rfl⟩
theorem fl_RX1_53 : FL RX1 53 1 3 := ⟨_, rfl, by decide, lwg_1 165 (by decide +kernel) rfl⟩
theorem fl_RX1_56 : FL RX1 56 1 4 := ⟨_, rfl, by decide, lwg_1 166 (by decide +kernel) rfl⟩
theorem fl_RX1_59 : FL RX1 59 1 5 := ⟨_, rfl, by decide, lwg_1 167 (by decide +kernel) rfl⟩
theorem fl_RX1_62 : FL RX1 62 1 6 := ⟨_, rfl, by decide, lwg_1 168 (by decide +kernel) rfl⟩
theorem fl_RX1_87 : FL RX1 87 6 2 := ⟨_, rfl, by decide, lwg_1 127 (by decide +kernel) rfl⟩
theorem fl_RX1_102 : FL RX1 102 6 4 := ⟨_, rfl, by decide, lwg_1 136 (by decide +kernel) rfl⟩
theorem fl_RX1_106 : FL RX1 106 6 0 := ⟨_, rfl, by decide, lwg_1 122 (by decide +kernel) rfl⟩
theorem fl_RX1_115 : FL RX1 115 6 3 := ⟨_, rfl, by decide, lwg_1 132 (by decide +kernel) rfl⟩
theorem fl_RX1_118 : FL RX1 118 6 5 := ⟨_, rfl, by decide, lwg_1 141 (by decide +kernel) rfl⟩
theorem fl_RX1_128 : FL RX1 128 0 1 := ⟨_, rfl, by decide, lwg_1 67 (by decide +kernel) rfl⟩
theorem fl_RX1_132 : FL RX1 132 0 2 := ⟨_, rfl, by decide, lwg_1 72 (by decide +kernel) rfl⟩
theorem fl_RX1_169 : FL RX1 169 0 8 := ⟨_, rfl, by decide, lwg_1 94 (by decide +kernel) rfl⟩
theorem fl_RX2_9 : FL RX2 9 2 0 := ⟨_, rfl, by decide, lwg_2 41 (by decide +kernel) rfl⟩
theorem fl_RX2_15 : FL RX2 15 2 1 := ⟨_, rfl, by decide, lwg_2 44 (by decide +kernel) rfl⟩
theorem fl_RX2_19 : FL RX2 19 2 2 := ⟨_, rfl, by decide, lwg_2 46 (by decide +kernel) rfl⟩
theorem fl_RX3_9 : FL RX3 9 3 0 := ⟨_, rfl, by decide, lwg_1 40 (by decide +kernel) rfl⟩
theorem fl_RX3_15 : FL RX3 15 3 1 := ⟨_, rfl, by decide, lwg_1 43 (by decide +kernel) rfl⟩
theorem fl_RX3_18 : FL RX3 18 3 2 := ⟨_, rfl, by decide, lwg_1 46 (by decide +kernel) rfl⟩
theorem fl_RX4_9 : FL RX4 9 4 1 := ⟨_, rfl, by decide, lwg_1 221 (by decide +kernel) rfl⟩
theorem fl_RX4_15 : FL RX4 15 4 3 := ⟨_, rfl, by decide, lwg_1 225 (by decide +kernel) rfl⟩
theorem fl_RX4_18 : FL RX4 18 4 4 := ⟨_, rfl, by decide, lwg_1 226 (by decide +kernel) rfl⟩
theorem fl_RX4_21 : FL RX4 21 4 5 := ⟨_, rfl, by decide, lwg_1 227 (by decide +kernel) rfl⟩
theorem fl_RX4_24 : FL RX4 24 4 6 := ⟨_, rfl, by decide, lwg_1 228 (by decide +kernel) rfl⟩
theorem fl_RX4_27 : FL RX4 27 4 0 := ⟨_, rfl, by decide, lwg_1 220 (by decide +kernel) rfl⟩
theorem fl_RX4_31 : FL RX4 31 4 2 := ⟨_, rfl, by decide, lwg_1 223 (by decide +kernel) rfl⟩
theorem fl_RX4_41 : FL RX4 41 6 3 := ⟨_, rfl, by decide, lwg_1 130 (by decide +kernel) rfl⟩
theorem fl_RX4_46 : FL RX4 46 6 5 := ⟨_, rfl, by decide, lwg_1 139 (by decide +kernel) rfl⟩
theorem fl_RX4_50 : FL RX4 50 6 0 := ⟨_, rfl, by decide, lwg_1 120 (by decide +kernel) rfl⟩
theorem fl_RX4_91 : FL RX4 91 0 1 := ⟨_, rfl, by decide, lwg_1 66 (by decide +kernel) rfl⟩
theorem fl_RX4_94 : FL RX4 94 0 2 := ⟨_, rfl, by decide, lwg_1 71 (by decide +kernel) rfl⟩
theorem fl_RX5_9 : FL RX5 9 5 0 := ⟨_, rfl, by decide, lwg_2 10 (by decide +kernel) rfl⟩
theorem fl_RX5_15 : FL RX5 15 5 1 := ⟨_, rfl, by decide, lwg_2 11 (by decide +kernel) rfl⟩
theorem fl_RX5_19 : FL RX5 19 5 2 := ⟨_, rfl, by decide, lwg_2 13 (by decide +kernel) rfl⟩
theorem fl_RX5_22 : FL RX5 22 5 5 := ⟨_, rfl, by decide, lwg_2 17 (by decide +kernel) rfl⟩
theorem fl_RX5_28 : FL RX5 28 5 3 := ⟨_, rfl, by decide, lwg_2 15 (by decide +kernel) rfl⟩
theorem fl_RX5_34 : FL RX5 34 5 4 := ⟨_, rfl, by decide, lwg_2 16 (by decide +kernel) rfl⟩
theorem fl_RX5_45 : FL RX5 45 5 6 := ⟨_, rfl, by decide, lwg_2 18 (by decide +kernel) rfl⟩
theorem fl_RX5_98 : FL RX5 98 6 2 := ⟨_, rfl, by decide, lwg_1 128 (by decide +kernel) rfl⟩
theorem fl_RX5_107 : FL RX5 107 6 3 := ⟨_, rfl, by decide, lwg_1 133 (by decide +kernel) rfl⟩
theorem fl_RX5_121 : FL RX5 121 6 4 := ⟨_, rfl, by decide, lwg_1 137 (by decide +kernel) rfl⟩
theorem fl_RX5_128 : FL RX5 128 3 2 := ⟨_, rfl, by decide, lwg_1 49 (by decide +kernel) rfl⟩
theorem fl_RX5_132 : FL RX5 132 6 5 := ⟨_, rfl, by decide, lwg_1 142 (by decide +kernel) rfl⟩
theorem fl_RX5_142 : FL RX5 142 0 3 := ⟨_, rfl, by decide, lwg_1 77 (by decide +kernel) rfl⟩
theorem fl_RX5_149 : FL RX5 149 0 4 := ⟨_, rfl, by decide, lwg_1 80 (by decide +kernel) rfl⟩
theorem fl_RX5_153 : FL RX5 153 0 5 := ⟨_, rfl, by decide, lwg_1 83 (by decide +kernel) rfl⟩
theorem fl_RX5_157 : FL RX5 157 0 6 := ⟨_, rfl, by decide, lwg_1 86 (by decide +kernel) rfl⟩
theorem fl_RX5_159 : FL RX5 159 0 7 := ⟨_, rfl, by decide, lwg_1 90 (by decide +kernel) rfl⟩
theorem fl_RX6_11 : FL RX6 11 6 4 := ⟨_, rfl, by decide, lwg_1 134 (by decide +kernel) rfl⟩
theorem fl_RX6_19 : FL RX6 19 6 5 := ⟨_, rfl, by decide, lwg_1 138 (by decide +kernel) rfl⟩
theorem fl_RX6_25 : FL RX6 25 6 0 := ⟨_, rfl, by decide, lwg_1 119 (by decide +kernel) rfl⟩
theorem fl_RX6_29 : FL RX6 29 6 1 := ⟨_, rfl, by decide, lwg_1 123 (by decide +kernel) rfl⟩
theorem fl_RX6_32 : FL RX6 32 6 2 := ⟨_, rfl, by decide, lwg_1 125 (by decide +kernel) rfl⟩
theorem fl_RX6_35 : FL RX6 35 6 3 := ⟨_, rfl, by decide, lwg_1 129 (by decide +kernel) rfl⟩
theorem fl_RX6_53 : FL RX6 53 3 0 := ⟨_, rfl, by decide, lwg_1 42 (by decide +kernel) rfl⟩
theorem fl_RX6_56 : FL RX6 56 3 1 := ⟨_, rfl, by decide, lwg_1 45 (by decide +kernel) rfl⟩
theorem fl_RX6_59 : FL RX6 59 3 2 := ⟨_, rfl, by decide, lwg_1 48 (by decide +kernel) rfl⟩
theorem fl_RX6_62 : FL RX6 62 0 0 := ⟨_, rfl, by decide, lwg_1 63 (by decide +kernel) rfl⟩
theorem fl_RX6_63 : FL RX6 63 0 1 := ⟨_, rfl, by decide, lwg_1 68 (by decide +kernel) rfl⟩
theorem fl_RX6_66 : FL RX6 66 0 2 := ⟨_, rfl, by decide, lwg_1 73 (by decide +kernel) rfl⟩
theorem fl_RX6_69 : FL RX6 69 0 5 := ⟨_, rfl, by decide, lwg_1 82 (by decide +kernel) rfl⟩
theorem fl_RX6_72 : FL RX6 72 0 6 := ⟨_, rfl, by decide, lwg_1 85 (by decide +kernel) rfl⟩
theorem fl_RX6_76 : FL RX6 76 0 7 := ⟨_, rfl, by decide, lwg_1 89 (by decide +kernel) rfl⟩
theorem fl_RX6_79 : FL RX6 79 0 8 := ⟨_, rfl, by decide, lwg_1 93 (by decide +kernel) rfl⟩
theorem fl_RX6_82 : FL RX6 82 0 9 := ⟨_, rfl, by decide, lwg_1 96 (by decide +kernel) rfl⟩
theorem fl_RX6_103 : FL RX6 103 2 2 := ⟨_, rfl, by decide, lwg_2 47 (by decide +kernel) rfl⟩
theorem fl_RX6_108 : FL RX6 108 2 0 := ⟨_, rfl, by decide, lwg_2 42 (by decide +kernel) rfl⟩
theorem fl_RX7_10 : FL RX7 10 7 0 := ⟨_, rfl, by decide, lwg_2 57 (by decide +kernel) rfl⟩
theorem fl_RX7_16 : FL RX7 16 7 1 := ⟨_, rfl, by decide, lwg_2 58 (by decide +kernel) rfl⟩
theorem fl_RX7_19 : FL RX7 19 7 2 := ⟨_, rfl, by decide, lwg_2 59 (by decide +kernel) rfl⟩
theorem fl_RX7_25 : FL RX7 25 7 3 := ⟨_, rfl, by decide, lwg_2 60 (by decide +kernel) rfl⟩
theorem fl_RX7_32 : FL RX7 32 7 4 := ⟨_, rfl, by decide, lwg_2 61 (by decide +kernel) rfl⟩
theorem fl_RX7_39 : FL RX7 39 7 5 := ⟨_, rfl, by decide, lwg_2 62 (by decide +kernel) rfl⟩
theorem fl_RX7_45 : FL RX7 45 7 6 := ⟨_, rfl, by decide, lwg_2 63 (by decide +kernel) rfl⟩
theorem fl_RX7_49 : FL RX7 49 7 7 := ⟨_, rfl, by decide, lwg_2 64 (by decide +kernel) rfl⟩
theorem fl_RX7_63 : FL RX7 63 6 2 := ⟨_, rfl, by decide, lwg_1 126 (by decide +kernel) rfl⟩
theorem fl_RX7_76 : FL RX7 76 6 3 := ⟨_, rfl, by decide, lwg_1 131 (by decide +kernel) rfl⟩
theorem fl_RX7_83 : FL RX7 83 6 5 := ⟨_, rfl, by decide, lwg_1 140 (by decide +kernel) rfl⟩
theorem fl_RX7_87 : FL RX7 87 0 3 := ⟨_, rfl, by decide, lwg_1 76 (by decide +kernel) rfl⟩
theorem fl_RX7_92 : FL RX7 92 0 4 := ⟨_, rfl, by decide, lwg_1 79 (by decide +kernel) rfl⟩
theorem fl_RX7_99 : FL RX7 99 6 4 := ⟨_, rfl, by decide, lwg_1 135 (by decide +kernel) rfl⟩
theorem fl_RX7_103 : FL RX7 103 3 0 := ⟨_, rfl, by decide, lwg_1 41 (by decide +kernel) rfl⟩
theorem fl_RX7_108 : FL RX7 108 3 1 := ⟨_, rfl, by decide, lwg_1 44 (by decide +kernel) rfl⟩
theorem fl_RX7_111 : FL RX7 111 3 2 := ⟨_, rfl, by decide, lwg_1 47 (by decide +kernel) rfl⟩
theorem fl_RX7_114 : FL RX7 114 6 0 := ⟨_, rfl, by decide, lwg_1 121 (by decide +kernel) rfl⟩
theorem fl_RX7_133 : FL RX7 133 0 8 := ⟨_, rfl, by decide, lwg_1 92 (by decide +kernel) rfl⟩
theorem fl_RX7_148 : FL RX7 148 0 2 := ⟨_, rfl, by decide, lwg_1 74 (by decide +kernel) rfl⟩
theorem fl_RX7_151 : FL RX7 151 0 1 := ⟨_, rfl, by decide, lwg_1 69 (by decide +kernel) rfl⟩
theorem fl_RX7_162 : FL RX7 162 0 0 := ⟨_, rfl, by decide, lwg_1 64 (by decide +kernel) rfl⟩
theorem fl_RX7_180 : FL RX7 180 6 1 := ⟨_, rfl, by decide, lwg_1 124 (by decide +kernel) rfl⟩
theorem fl_RX7_268 : FL RX7 268 4 2 := ⟨_, rfl, by decide, lwg_1 224 (by decide +kernel) rfl⟩
theorem fl_RX7_271 : FL RX7 271 4 1 := ⟨_, rfl, by decide, lwg_1 222 (by decide +kernel) rfl⟩
theorem fl_RX7_277 : FL RX7 277 5 1 := ⟨_, rfl, by decide, lwg_2 12 (by decide +kernel) rfl⟩
theorem fl_RX7_294 : FL RX7 294 5 2 := ⟨_, rfl, by decide, lwg_2 14 (by decide +kernel) rfl⟩
theorem fl_RX7_305 : FL RX7 305 2 2 := ⟨_, rfl, by decide, lwg_2 48 (by decide +kernel) rfl⟩
theorem fl_RX7_306 : FL RX7 306 2 0 := ⟨_, rfl, by decide, lwg_2 43 (by decide +kernel) rfl⟩
theorem fl_RX7_314 : FL RX7 314 2 1 := ⟨_, rfl, by decide, lwg_2 45 (by decide +kernel) rfl⟩
theorem fl_RX7_347 : FL RX7 347 7 8 := ⟨_, rfl, by decide, lwg_2 65 (by decide +kernel) rfl⟩
theorem fl_RX7_356 : FL RX7 356 0 6 := ⟨_, rfl, by decide, lwg_1 87 (by decide +kernel) rfl⟩
theorem fl_RX8_7 : FL RX8 7 8 0 := ⟨_, rfl, by decide, lwg_5 39 (by decide +kernel) rfl⟩
theorem fl_RX8_13 : FL RX8 13 8 4 := ⟨_, rfl, by decide, lwg_5 43 (by decide +kernel) rfl⟩
theorem fl_RX8_16 : FL RX8 16 8 5 := ⟨_, rfl, by decide, lwg_5 44 (by decide +kernel) rfl⟩
theorem fl_RX8_19 : FL RX8 19 8 6 := ⟨_, rfl, by decide, lwg_5 45 (by decide +kernel) rfl⟩
theorem fl_RX8_22 : FL RX8 22 8 8 := ⟨_, rfl, by decide, lwg_5 47 (by decide +kernel) rfl⟩
theorem fl_RX8_25 : FL RX8 25 8 9 := ⟨_, rfl, by decide, lwg_5 48 (by decide +kernel) rfl⟩
theorem fl_RX8_28 : FL RX8 28 8 10 := ⟨_, rfl, by decide, lwg_5 49 (by decide +kernel) rfl⟩
theorem fl_RX8_31 : FL RX8 31 8 11 := ⟨_, rfl, by decide, lwg_5 50 (by decide +kernel) rfl⟩
theorem fl_RX8_34 : FL RX8 34 8 12 := ⟨_, rfl, by decide, lwg_5 51 (by decide +kernel) rfl⟩
theorem fl_RX8_37 : FL RX8 37 8 13 := ⟨_, rfl, by decide, lwg_5 52 (by decide +kernel) rfl⟩
theorem fl_RX8_40 : FL RX8 40 8 14 := ⟨_, rfl, by decide, lwg_5 53 (by decide +kernel) rfl⟩
theorem fl_RX8_43 : FL RX8 43 8 15 := ⟨_, rfl, by decide, lwg_5 54 (by decide +kernel) rfl⟩
theorem fl_RX8_46 : FL RX8 46 8 16 := ⟨_, rfl, by decide, lwg_5 55 (by decide +kernel) rfl⟩
theorem fl_RX8_49 : FL RX8 49 8 17 := ⟨_, rfl, by decide, lwg_5 56 (by decide +kernel) rfl⟩
theorem fl_RX8_52 : FL RX8 52 8 18 := ⟨_, rfl, by decide, lwg_5 57 (by decide +kernel) rfl⟩
theorem fl_RX8_55 : FL RX8 55 8 19 := ⟨_, rfl, by decide, lwg_5 58 (by decide +kernel) rfl⟩
theorem fl_RX8_58 : FL RX8 58 8 21 := ⟨_, rfl, by decide, lwg_5 60 (by decide +kernel) rfl⟩
theorem fl_RX8_61 : FL RX8 61 8 22 := ⟨_, rfl, by decide, lwg_5 61 (by decide +kernel) rfl⟩
theorem fl_RX8_64 : FL RX8 64 8 23 := ⟨_, rfl, by decide, lwg_5 62 (by decide +kernel) rfl⟩
theorem fl_RX8_67 : FL RX8 67 8 24 := ⟨_, rfl, by decide, lwg_5 63 (by decide +kernel) rfl⟩
theorem fl_RX8_70 : FL RX8 70 8 25 := ⟨_, rfl, by decide, lwg_5 64 (by decide +kernel) rfl⟩
theorem fl_RX8_73 : FL RX8 73 8 31 := ⟨_, rfl, by decide, lwg_5 70 (by decide +kernel) rfl⟩
theorem fl_RX8_77 : FL RX8 77 8 33 := ⟨_, rfl, by decide, lwg_5 72 (by decide +kernel) rfl⟩
theorem fl_RX8_80 : FL RX8 80 8 34 := ⟨_, rfl, by decide, lwg_5 73 (by decide +kernel) rfl⟩
theorem fl_RX8_83 : FL RX8 83 8 35 := ⟨_, rfl, by decide, lwg_5 74 (by decide +kernel) rfl⟩
theorem fl_RX8_87 : FL RX8 87 8 36 := ⟨_, rfl, by decide, lwg_5 75 (by decide +kernel) rfl⟩
theorem fl_RX8_90 : FL RX8 90 8 37 := ⟨_, rfl, by decide, lwg_5 76 (by decide +kernel) rfl⟩
theorem fl_RX8_93 : FL RX8 93 8 38 := ⟨_, rfl, by decide, lwg_5 77 (by decide +kernel) rfl⟩
theorem fl_RX8_97 : FL RX8 97 8 3 := ⟨_, rfl, by decide, lwg_5 42 (by decide +kernel) rfl⟩
theorem fl_RX8_105 : FL RX8 105 8 7 := ⟨_, rfl, by decide, lwg_5 46 (by decide +kernel) rfl⟩
theorem fl_RX8_154 : FL RX8 154 8 1 := ⟨_, rfl, by decide, lwg_5 40 (by decide +kernel) rfl⟩
theorem fl_RX8_194 : FL RX8 194 8 2 := ⟨_, rfl, by decide, lwg_5 41 (by decide +kernel) rfl⟩
theorem fl_RX8_211 : FL RX8 211 8 20 := ⟨_, rfl, by decide, lwg_5 59 (by decide +kernel) rfl⟩
theorem fl_RX8_299 : FL RX8 299 8 26 := ⟨_, rfl, by decide, lwg_5 65 (by decide +kernel) rfl⟩
theorem fl_RX8_302 : FL RX8 302 8 27 := ⟨_, rfl, by decide, lwg_5 66 (by decide +kernel) rfl⟩
theorem fl_RX8_305 : FL RX8 305 8 28 := ⟨_, rfl, by decide, lwg_5 67 (by decide +kernel) rfl⟩
theorem fl_RX8_311 : FL RX8 311 8 29 := ⟨_, rfl, by decide, lwg_5 68 (by decide +kernel) rfl⟩
theorem fl_RX8_325 : FL RX8 325 8 30 := ⟨_, rfl, by decide, lwg_5 69 (by decide +kernel) rfl⟩
theorem fl_RX8_328 : FL RX8 328 8 32 := ⟨_, rfl, by decide, lwg_5 71 (by decide +kernel) rfl⟩
theorem fl_RX8_382 : FL RX8 382 8 39 := ⟨_, rfl, by decide, lwg_5 78 (by decide +kernel) rfl⟩
theorem ml_RJ0_335 : Cond.methodLink RJ0 335 yJ0_coder_7d493 ∈ lwg := lwg_4 94 (by decide +kernel) rfl
theorem ml_RJ0_492 : Cond.methodLink RJ0 492 yJ0_isLatin1_aae02 ∈ lwg := lwg_4 104 (by decide +kernel) rfl
theorem ml_RJ0_495 : Cond.methodLink RJ0 495 yJ1_charAt_3b067 ∈ lwg := lwg_4 108 (by decide +kernel) rfl
theorem ml_RJ0_1059 : Cond.methodLink RJ0 1059 yJ3_checkIndex_8e157 ∈ lwg := lwg_4 116 (by decide +kernel) rfl
theorem ml_RJ1_9 : Cond.methodLink RJ1 9 yJ0_checkIndex_df160 ∈ lwg := lwg_4 111 (by decide +kernel) rfl
theorem ml_RX0_43 : Cond.methodLink RX0 43 arraycopyName ∈ lwg := lwg_3 196 (by decide +kernel) rfl
theorem ml_RX0_49 : Cond.methodLink RX0 49 Lib.Math.max.name ∈ lwg := lwg_2 157 (by decide +kernel) rfl
theorem ml_RX0_56 : Cond.methodLink RX0 56 yX0_setting ∈ lwg := lwg_2 191 (by decide +kernel) rfl
theorem ml_RX1_65 : Cond.methodLink RX1 65 yJ7_fill_53178 ∈ lwg := lwg_3 33 (by decide +kernel) rfl
theorem ml_RX1_71 : Cond.methodLink RX1 71 yX1_addTick ∈ lwg := lwg_3 38 (by decide +kernel) rfl
theorem ml_RX1_75 : Cond.methodLink RX1 75 Lib.Math.max.name ∈ lwg := lwg_3 69 (by decide +kernel) rfl
theorem ml_RX1_81 : Cond.methodLink RX1 81 yX1_findLevels ∈ lwg := lwg_3 70 (by decide +kernel) rfl
theorem ml_RX1_85 : Cond.methodLink RX1 85 yX1_fill ∈ lwg := lwg_3 74 (by decide +kernel) rfl
theorem ml_RX1_92 : Cond.methodLink RX1 92 yX6_supply ∈ lwg := lwg_3 42 (by decide +kernel) rfl
theorem ml_RX1_95 : Cond.methodLink RX1 95 yX1_node ∈ lwg := lwg_3 46 (by decide +kernel) rfl
theorem ml_RX1_98 : Cond.methodLink RX1 98 yX1_addArc ∈ lwg := lwg_3 50 (by decide +kernel) rfl
theorem ml_RX1_109 : Cond.methodLink RX1 109 yX3_holds ∈ lwg := lwg_3 58 (by decide +kernel) rfl
theorem ml_RX1_122 : Cond.methodLink RX1 122 yX0_takes ∈ lwg := lwg_3 59 (by decide +kernel) rfl
theorem ml_RX1_135 : Cond.methodLink RX1 135 yX6_roomAhead ∈ lwg := lwg_3 61 (by decide +kernel) rfl
theorem ml_RX1_139 : Cond.methodLink RX1 139 yX1_putArc ∈ lwg := lwg_3 54 (by decide +kernel) rfl
theorem ml_RX1_143 : Cond.methodLink RX1 143 arraycopyName ∈ lwg := lwg_3 78 (by decide +kernel) rfl
theorem ml_RX1_150 : Cond.methodLink RX1 150 yX1_push ∈ lwg := lwg_3 82 (by decide +kernel) rfl
theorem ml_RX1_153 : Cond.methodLink RX1 153 yX1_nextDown ∈ lwg := lwg_3 87 (by decide +kernel) rfl
theorem ml_RX1_156 : Cond.methodLink RX1 156 yX1_leadsDown ∈ lwg := lwg_3 91 (by decide +kernel) rfl
theorem ml_RX1_160 : Cond.methodLink RX1 160 Lib.Math.min.name ∈ lwg := lwg_3 86 (by decide +kernel) rfl
theorem ml_RX1_163 : Cond.methodLink RX1 163 yX1_ticksNear ∈ lwg := lwg_3 179 (by decide +kernel) rfl
theorem ml_RX1_166 : Cond.methodLink RX1 166 yX1_peak ∈ lwg := lwg_3 159 (by decide +kernel) rfl
theorem ml_RX2_22 : Cond.methodLink RX2 22 yJ7_fill_d0a16 ∈ lwg := lwg_4 200 (by decide +kernel) rfl
theorem ml_RX4_35 : Cond.methodLink RX4 35 yJ7_fill_53178 ∈ lwg := lwg_3 226 (by decide +kernel) rfl
theorem ml_RX4_53 : Cond.methodLink RX4 53 yX0_room ∈ lwg := lwg_3 227 (by decide +kernel) rfl
theorem ml_RX4_60 : Cond.methodLink RX4 60 yX4_findQuickest ∈ lwg := lwg_3 229 (by decide +kernel) rfl
theorem ml_RX4_64 : Cond.methodLink RX4 64 yX4_narrowest ∈ lwg := lwg_4 10 (by decide +kernel) rfl
theorem ml_RX4_68 : Cond.methodLink RX4 68 yX4_push ∈ lwg := lwg_4 16 (by decide +kernel) rfl
theorem ml_RX4_76 : Cond.methodLink RX4 76 yX4_improve ∈ lwg := lwg_3 233 (by decide +kernel) rfl
theorem ml_RX4_80 : Cond.methodLink RX4 80 yX4_tail ∈ lwg := lwg_3 237 (by decide +kernel) rfl
theorem ml_RX4_83 : Cond.methodLink RX4 83 yX4_room ∈ lwg := lwg_4 1 (by decide +kernel) rfl
theorem ml_RX4_84 : Cond.methodLink RX4 84 yX0_takes ∈ lwg := lwg_4 5 (by decide +kernel) rfl
theorem ml_RX4_88 : Cond.methodLink RX4 88 yX4_head ∈ lwg := lwg_4 6 (by decide +kernel) rfl
theorem ml_RX4_98 : Cond.methodLink RX4 98 Lib.Math.min.name ∈ lwg := lwg_4 15 (by decide +kernel) rfl
theorem ml_RX4_107 : Cond.methodLink RX4 107 yX4_behind ∈ lwg := lwg_4 45 (by decide +kernel) rfl
theorem ml_RX5_25 : Cond.methodLink RX5 25 yX5_readToken ∈ lwg := lwg_4 66 (by decide +kernel) rfl
theorem ml_RX5_31 : Cond.methodLink RX5 31 yX5_fail ∈ lwg := lwg_4 169 (by decide +kernel) rfl
theorem ml_RX5_37 : Cond.methodLink RX5 37 yX5_sortOf ∈ lwg := lwg_4 70 (by decide +kernel) rfl
theorem ml_RX5_41 : Cond.methodLink RX5 41 yX5_valueOfToken ∈ lwg := lwg_4 73 (by decide +kernel) rfl
theorem ml_RX5_48 : Cond.methodLink RX5 48 yJ0_length_8abf5 ∈ lwg := lwg_4 90 (by decide +kernel) rfl
theorem ml_RX5_53 : Cond.methodLink RX5 53 yJ0_charAt_5068e ∈ lwg := lwg_4 100 (by decide +kernel) rfl
theorem ml_RX5_57 : Cond.methodLink RX5 57 yX5_isWord ∈ lwg := lwg_4 86 (by decide +kernel) rfl
theorem ml_RX5_65 : Cond.methodLink RX5 65 yX5_takeWord ∈ lwg := lwg_4 160 (by decide +kernel) rfl
theorem ml_RX5_68 : Cond.methodLink RX5 68 yX5_takeNumber ∈ lwg := lwg_4 164 (by decide +kernel) rfl
theorem ml_RX5_92 : Cond.methodLink RX5 92 yX5_stationKind ∈ lwg := lwg_4 81 (by decide +kernel) rfl
theorem ml_RX5_95 : Cond.methodLink RX5 95 yX5_lineKind ∈ lwg := lwg_4 141 (by decide +kernel) rfl
theorem ml_RX5_103 : Cond.methodLink RX5 103 yX5_readStation ∈ lwg := lwg_4 151 (by decide +kernel) rfl
theorem ml_RX5_110 : Cond.methodLink RX5 110 yX5_readLine ∈ lwg := lwg_4 175 (by decide +kernel) rfl
theorem ml_RX5_115 : Cond.methodLink RX5 115 yX5_takeOption ∈ lwg := lwg_4 156 (by decide +kernel) rfl
theorem ml_RX5_125 : Cond.methodLink RX5 125 yX6_addStation ∈ lwg := lwg_4 174 (by decide +kernel) rfl
theorem ml_RX5_136 : Cond.methodLink RX5 136 yX6_addLine ∈ lwg := lwg_4 179 (by decide +kernel) rfl
theorem ml_RX6_38 : Cond.methodLink RX6 38 yX3_become ∈ lwg := lwg_3 188 (by decide +kernel) rfl
theorem ml_RX6_42 : Cond.methodLink RX6 42 yX0_become ∈ lwg := lwg_3 192 (by decide +kernel) rfl
theorem ml_RX6_49 : Cond.methodLink RX6 49 yX6_hasStation ∈ lwg := lwg_2 110 (by decide +kernel) rfl
theorem ml_RX6_86 : Cond.methodLink RX6 86 yJ7_fill_53178 ∈ lwg := lwg_2 120 (by decide +kernel) rfl
theorem ml_RX6_92 : Cond.methodLink RX6 92 yX0_room ∈ lwg := lwg_2 216 (by decide +kernel) rfl
theorem ml_RX6_96 : Cond.methodLink RX6 96 yX0_takes ∈ lwg := lwg_2 217 (by decide +kernel) rfl
theorem ml_RX6_100 : Cond.methodLink RX6 100 yX3_holds ∈ lwg := lwg_2 228 (by decide +kernel) rfl
theorem ml_RX6_112 : Cond.methodLink RX6 112 yX6_dispatch ∈ lwg := lwg_5 7 (by decide +kernel) rfl
theorem ml_RX6_116 : Cond.methodLink RX6 116 yX6_passTick ∈ lwg := lwg_5 8 (by decide +kernel) rfl
theorem ml_RX6_119 : Cond.methodLink RX6 119 yX0_underWay ∈ lwg := lwg_2 137 (by decide +kernel) rfl
theorem ml_RX6_122 : Cond.methodLink RX6 122 yX6_allStock ∈ lwg := lwg_3 112 (by decide +kernel) rfl
theorem ml_RX6_125 : Cond.methodLink RX6 125 yX6_allUnderWay ∈ lwg := lwg_3 113 (by decide +kernel) rfl
theorem ml_RX6_128 : Cond.methodLink RX6 128 Lib.Math.min.name ∈ lwg := lwg_3 65 (by decide +kernel) rfl
theorem ml_RX6_134 : Cond.methodLink RX6 134 Lib.Math.max.name ∈ lwg := lwg_3 68 (by decide +kernel) rfl
theorem ml_RX6_137 : Cond.methodLink RX6 137 yX2_entry ∈ lwg := lwg_3 143 (by decide +kernel) rfl
theorem ml_RX6_140 : Cond.methodLink RX6 140 yX6_supply ∈ lwg := lwg_3 144 (by decide +kernel) rfl
theorem ml_RX6_144 : Cond.methodLink RX6 144 yX6_roomAhead ∈ lwg := lwg_3 150 (by decide +kernel) rfl
theorem ml_RX7_54 : Cond.methodLink RX7 54 yX7_isIn ∈ lwg := lwg_2 89 (by decide +kernel) rfl
theorem ml_RX7_59 : Cond.methodLink RX7 59 yX7_found ∈ lwg := lwg_2 93 (by decide +kernel) rfl
theorem ml_RX7_68 : Cond.methodLink RX7 68 yX6_addStation ∈ lwg := lwg_2 98 (by decide +kernel) rfl
theorem ml_RX7_72 : Cond.methodLink RX7 72 yX6_areTwo ∈ lwg := lwg_2 106 (by decide +kernel) rfl
theorem ml_RX7_79 : Cond.methodLink RX7 79 yX6_addLine ∈ lwg := lwg_2 115 (by decide +kernel) rfl
theorem ml_RX7_95 : Cond.methodLink RX7 95 yX6_hasStation ∈ lwg := lwg_2 127 (by decide +kernel) rfl
theorem ml_RX7_117 : Cond.methodLink RX7 117 yX3_holds ∈ lwg := lwg_2 128 (by decide +kernel) rfl
theorem ml_RX7_120 : Cond.methodLink RX7 120 yX6_comingTo ∈ lwg := lwg_2 133 (by decide +kernel) rfl
theorem ml_RX7_123 : Cond.methodLink RX7 123 yX6_hasLine ∈ lwg := lwg_2 145 (by decide +kernel) rfl
theorem ml_RX7_126 : Cond.methodLink RX7 126 yX0_room ∈ lwg := lwg_2 149 (by decide +kernel) rfl
theorem ml_RX7_129 : Cond.methodLink RX7 129 yX0_takes ∈ lwg := lwg_2 153 (by decide +kernel) rfl
theorem ml_RX7_136 : Cond.methodLink RX7 136 yX0_underWay ∈ lwg := lwg_2 160 (by decide +kernel) rfl
theorem ml_RX7_139 : Cond.methodLink RX7 139 yX0_setting ∈ lwg := lwg_2 161 (by decide +kernel) rfl
theorem ml_RX7_142 : Cond.methodLink RX7 142 yX3_greatest ∈ lwg := lwg_2 169 (by decide +kernel) rfl
theorem ml_RX7_145 : Cond.methodLink RX7 145 yX3_replace ∈ lwg := lwg_2 172 (by decide +kernel) rfl
theorem ml_RX7_154 : Cond.methodLink RX7 154 yX0_least ∈ lwg := lwg_2 180 (by decide +kernel) rfl
theorem ml_RX7_157 : Cond.methodLink RX7 157 yX0_greatest ∈ lwg := lwg_2 183 (by decide +kernel) rfl
theorem ml_RX7_158 : Cond.methodLink RX7 158 yX0_replace ∈ lwg := lwg_2 187 (by decide +kernel) rfl
theorem ml_RX7_163 : Cond.methodLink RX7 163 yX7_isUnder ∈ lwg := lwg_2 198 (by decide +kernel) rfl
theorem ml_RX7_171 : Cond.methodLink RX7 171 yX6_dispatch ∈ lwg := lwg_2 212 (by decide +kernel) rfl
theorem ml_RX7_177 : Cond.methodLink RX7 177 yX6_passTick ∈ lwg := lwg_2 224 (by decide +kernel) rfl
theorem ml_RX7_183 : Cond.methodLink RX7 183 yX6_allStock ∈ lwg := lwg_2 233 (by decide +kernel) rfl
theorem ml_RX7_186 : Cond.methodLink RX7 186 yX6_allUnderWay ∈ lwg := lwg_2 237 (by decide +kernel) rfl
theorem ml_RX7_189 : Cond.methodLink RX7 189 yX6_allSent ∈ lwg := lwg_3 1 (by decide +kernel) rfl
theorem ml_RX7_192 : Cond.methodLink RX7 192 yX6_allRoom ∈ lwg := lwg_3 5 (by decide +kernel) rfl
theorem ml_RX7_195 : Cond.methodLink RX7 195 yX6_losingStations ∈ lwg := lwg_3 9 (by decide +kernel) rfl
theorem ml_RX7_198 : Cond.methodLink RX7 198 yX6_openLines ∈ lwg := lwg_3 13 (by decide +kernel) rfl
theorem ml_RX7_201 : Cond.methodLink RX7 201 yX7_isAsked ∈ lwg := lwg_3 21 (by decide +kernel) rfl
theorem ml_RX7_204 : Cond.methodLink RX7 204 yX7_mostIn ∈ lwg := lwg_3 25 (by decide +kernel) rfl
theorem ml_RX7_208 : Cond.methodLink RX7 208 yX7_ticksUntil ∈ lwg := lwg_3 99 (by decide +kernel) rfl
theorem ml_RX7_212 : Cond.methodLink RX7 212 yX6_allGoods ∈ lwg := lwg_3 108 (by decide +kernel) rfl
theorem ml_RX7_215 : Cond.methodLink RX7 215 yX1_searchNear ∈ lwg := lwg_3 118 (by decide +kernel) rfl
theorem ml_RX7_218 : Cond.methodLink RX7 218 yX1_ticksNear ∈ lwg := lwg_3 122 (by decide +kernel) rfl
theorem ml_RX7_221 : Cond.methodLink RX7 221 yX7_sheetFault ∈ lwg := lwg_3 130 (by decide +kernel) rfl
theorem ml_RX7_224 : Cond.methodLink RX7 224 yX2_entry ∈ lwg := lwg_3 135 (by decide +kernel) rfl
theorem ml_RX7_227 : Cond.methodLink RX7 227 yX6_costOutside ∈ lwg := lwg_3 139 (by decide +kernel) rfl
theorem ml_RX7_231 : Cond.methodLink RX7 231 yX6_costOfLines ∈ lwg := lwg_3 145 (by decide +kernel) rfl
theorem ml_RX7_234 : Cond.methodLink RX7 234 yX1_busyLines ∈ lwg := lwg_3 155 (by decide +kernel) rfl
theorem ml_RX7_237 : Cond.methodLink RX7 237 yX7_mostHeld ∈ lwg := lwg_3 163 (by decide +kernel) rfl
theorem ml_RX7_241 : Cond.methodLink RX7 241 yX1_stationsNear ∈ lwg := lwg_3 175 (by decide +kernel) rfl
theorem ml_RX7_244 : Cond.methodLink RX7 244 yX7_mostWidened ∈ lwg := lwg_3 180 (by decide +kernel) rfl
theorem ml_RX7_247 : Cond.methodLink RX7 247 yX1_peak ∈ lwg := lwg_3 201 (by decide +kernel) rfl
theorem ml_RX7_250 : Cond.methodLink RX7 250 yX1_canStillSendFrom ∈ lwg := lwg_3 206 (by decide +kernel) rfl
theorem ml_RX7_253 : Cond.methodLink RX7 253 yX6_become ∈ lwg := lwg_3 184 (by decide +kernel) rfl
theorem ml_RX7_257 : Cond.methodLink RX7 257 yX4_solve ∈ lwg := lwg_3 222 (by decide +kernel) rfl
theorem ml_RX7_261 : Cond.methodLink RX7 261 yX4_behind ∈ lwg := lwg_4 21 (by decide +kernel) rfl
theorem ml_RX7_274 : Cond.methodLink RX7 274 yX4_ticksUntil ∈ lwg := lwg_4 39 (by decide +kernel) rfl
theorem ml_RX7_280 : Cond.methodLink RX7 280 yX5_add ∈ lwg := lwg_4 50 (by decide +kernel) rfl
theorem ml_RX7_284 : Cond.methodLink RX7 284 yX5_start ∈ lwg := lwg_4 62 (by decide +kernel) rfl
theorem ml_RX7_287 : Cond.methodLink RX7 287 yX5_readItem ∈ lwg := lwg_4 77 (by decide +kernel) rfl
theorem ml_RX7_290 : Cond.methodLink RX7 290 yX5_takeSign ∈ lwg := lwg_4 184 (by decide +kernel) rfl
theorem ml_RX7_297 : Cond.methodLink RX7 297 yX2_hasBits ∈ lwg := lwg_4 193 (by decide +kernel) rfl
theorem ml_RX7_300 : Cond.methodLink RX7 300 yX2_renew ∈ lwg := lwg_4 196 (by decide +kernel) rfl
theorem ml_RX7_310 : Cond.methodLink RX7 310 yX2_put ∈ lwg := lwg_4 208 (by decide +kernel) rfl
theorem ml_RX7_318 : Cond.methodLink RX7 318 yX2_hasPart ∈ lwg := lwg_4 216 (by decide +kernel) rfl
theorem ml_RX7_321 : Cond.methodLink RX7 321 arraycopyName ∈ lwg := lwg_4 220 (by decide +kernel) rfl
theorem ml_RX7_329 : Cond.methodLink RX7 329 Lib.Math.min.name ∈ lwg := lwg_4 230 (by decide +kernel) rfl
theorem ml_RX7_334 : Cond.methodLink RX7 334 yX1_open ∈ lwg := lwg_3 29 (by decide +kernel) rfl
theorem ml_RX7_338 : Cond.methodLink RX7 338 yX1_flowBehind ∈ lwg := lwg_3 34 (by decide +kernel) rfl
theorem ml_RX7_341 : Cond.methodLink RX7 341 yX7_planFault ∈ lwg := lwg_4 235 (by decide +kernel) rfl
theorem ml_RX7_344 : Cond.methodLink RX7 344 yX7_follow ∈ lwg := lwg_4 239 (by decide +kernel) rfl
theorem ml_RX7_351 : Cond.methodLink RX7 351 yX6_follow ∈ lwg := lwg_5 3 (by decide +kernel) rfl
theorem ml_RX7_353 : Cond.methodLink RX7 353 yX1_hold ∈ lwg := lwg_3 167 (by decide +kernel) rfl
theorem ml_RX8_101 : Cond.methodLink RX8 101 yX8_in ∈ lwg := lwg_5 166 (by decide +kernel) rfl
theorem ml_RX8_109 : Cond.methodLink RX8 109 yX8_at ∈ lwg := lwg_5 208 (by decide +kernel) rfl
theorem ml_RX8_113 : Cond.methodLink RX8 113 yX8_roomBy ∈ lwg := lwg_5 229 (by decide +kernel) rfl
theorem ml_RX8_117 : Cond.methodLink RX8 117 yX8_sumOf ∈ lwg := lwg_6 47 (by decide +kernel) rfl
theorem ml_RX8_121 : Cond.methodLink RX8 121 yX8_allOnWay ∈ lwg := lwg_6 51 (by decide +kernel) rfl
theorem ml_RX8_129 : Cond.methodLink RX8 129 yX8_finds ∈ lwg := lwg_5 171 (by decide +kernel) rfl
theorem ml_RX8_134 : Cond.methodLink RX8 134 yX8_addStation ∈ lwg := lwg_5 176 (by decide +kernel) rfl
theorem ml_RX8_140 : Cond.methodLink RX8 140 yX8_isStation ∈ lwg := lwg_5 185 (by decide +kernel) rfl
theorem ml_RX8_148 : Cond.methodLink RX8 148 yX8_addLine ∈ lwg := lwg_5 191 (by decide +kernel) rfl
theorem ml_RX8_151 : Cond.methodLink RX8 151 yX8_onWay ∈ lwg := lwg_5 212 (by decide +kernel) rfl
theorem ml_RX8_157 : Cond.methodLink RX8 157 yX8_holds ∈ lwg := lwg_5 200 (by decide +kernel) rfl
theorem ml_RX8_160 : Cond.methodLink RX8 160 yX8_comesTo ∈ lwg := lwg_5 204 (by decide +kernel) rfl
theorem ml_RX8_163 : Cond.methodLink RX8 163 yX8_isLine ∈ lwg := lwg_5 220 (by decide +kernel) rfl
theorem ml_RX8_168 : Cond.methodLink RX8 168 yX8_room ∈ lwg := lwg_5 225 (by decide +kernel) rfl
theorem ml_RX8_171 : Cond.methodLink RX8 171 yX8_takes ∈ lwg := lwg_5 233 (by decide +kernel) rfl
theorem ml_RX8_178 : Cond.methodLink RX8 178 yX8_mayBe ∈ lwg := lwg_6 6 (by decide +kernel) rfl
theorem ml_RX8_185 : Cond.methodLink RX8 185 yX8_canSend ∈ lwg := lwg_6 25 (by decide +kernel) rfl
theorem ml_RX8_190 : Cond.methodLink RX8 190 yX8_sends ∈ lwg := lwg_6 30 (by decide +kernel) rfl
theorem ml_RX8_199 : Cond.methodLink RX8 199 yX8_oneTick ∈ lwg := lwg_6 39 (by decide +kernel) rfl
theorem ml_RX8_202 : Cond.methodLink RX8 202 yX8_roomOfAll ∈ lwg := lwg_6 55 (by decide +kernel) rfl
theorem ml_RX8_205 : Cond.methodLink RX8 205 yX8_losing ∈ lwg := lwg_6 59 (by decide +kernel) rfl
theorem ml_RX8_208 : Cond.methodLink RX8 208 yX8_openLines ∈ lwg := lwg_6 63 (by decide +kernel) rfl
theorem ml_RX8_214 : Cond.methodLink RX8 214 yX8_meets ∈ lwg := lwg_6 95 (by decide +kernel) rfl
theorem ml_RX8_217 : Cond.methodLink RX8 217 yX8_spreads ∈ lwg := lwg_6 99 (by decide +kernel) rfl
theorem ml_RX8_220 : Cond.methodLink RX8 220 yX8_searches ∈ lwg := lwg_6 91 (by decide +kernel) rfl
theorem ml_RX8_223 : Cond.methodLink RX8 223 yX8_behind ∈ lwg := lwg_6 103 (by decide +kernel) rfl
theorem ml_RX8_226 : Cond.methodLink RX8 226 yX8_leftFor ∈ lwg := lwg_6 107 (by decide +kernel) rfl
theorem ml_RX8_229 : Cond.methodLink RX8 229 yX8_moves ∈ lwg := lwg_6 111 (by decide +kernel) rfl
theorem ml_RX8_232 : Cond.methodLink RX8 232 yX8_layOut ∈ lwg := lwg_6 83 (by decide +kernel) rfl
theorem ml_RX8_236 : Cond.methodLink RX8 236 yX8_brings ∈ lwg := lwg_6 87 (by decide +kernel) rfl
theorem ml_RX8_239 : Cond.methodLink RX8 239 yX8_ownTill ∈ lwg := lwg_6 115 (by decide +kernel) rfl
theorem ml_RX8_242 : Cond.methodLink RX8 242 yX8_mostBy ∈ lwg := lwg_6 79 (by decide +kernel) rfl
theorem ml_RX8_248 : Cond.methodLink RX8 248 yX8_isAhead ∈ lwg := lwg_6 71 (by decide +kernel) rfl
theorem ml_RX8_251 : Cond.methodLink RX8 251 yX8_mostOf ∈ lwg := lwg_6 75 (by decide +kernel) rfl
theorem ml_RX8_254 : Cond.methodLink RX8 254 yX8_quickOf ∈ lwg := lwg_6 123 (by decide +kernel) rfl
theorem ml_RX8_258 : Cond.methodLink RX8 258 yX8_goods ∈ lwg := lwg_6 132 (by decide +kernel) rfl
theorem ml_RX8_261 : Cond.methodLink RX8 261 yX8_isSheet ∈ lwg := lwg_6 144 (by decide +kernel) rfl
theorem ml_RX8_268 : Cond.methodLink RX8 268 yX8_nearer ∈ lwg := lwg_6 190 (by decide +kernel) rfl
theorem ml_RX8_272 : Cond.methodLink RX8 272 yX8_measures ∈ lwg := lwg_6 185 (by decide +kernel) rfl
theorem ml_RX8_276 : Cond.methodLink RX8 276 yX8_stepBack ∈ lwg := lwg_6 194 (by decide +kernel) rfl
theorem ml_RX8_279 : Cond.methodLink RX8 279 yX8_areTwo ∈ lwg := lwg_6 177 (by decide +kernel) rfl
theorem ml_RX8_283 : Cond.methodLink RX8 283 yX8_findsGains ∈ lwg := lwg_6 181 (by decide +kernel) rfl
theorem ml_RX8_286 : Cond.methodLink RX8 286 yX8_steadyBehind ∈ lwg := lwg_6 198 (by decide +kernel) rfl
theorem ml_RX8_308 : Cond.methodLink RX8 308 yX8_byteAt ∈ lwg := lwg_6 235 (by decide +kernel) rfl
theorem ml_RX8_322 : Cond.methodLink RX8 322 yX8_isWordFrom ∈ lwg := lwg_7 3 (by decide +kernel) rfl
theorem ml_RX8_331 : Cond.methodLink RX8 331 yX8_next ∈ lwg := lwg_6 231 (by decide +kernel) rfl
theorem ml_RX8_334 : Cond.methodLink RX8 334 yX8_isWord ∈ lwg := lwg_7 19 (by decide +kernel) rfl
theorem ml_RX8_337 : Cond.methodLink RX8 337 yX8_takesNumber ∈ lwg := lwg_7 23 (by decide +kernel) rfl
theorem ml_RX8_340 : Cond.methodLink RX8 340 yX8_perhaps ∈ lwg := lwg_7 15 (by decide +kernel) rfl
theorem ml_RX8_343 : Cond.methodLink RX8 343 yX8_readsStation ∈ lwg := lwg_7 11 (by decide +kernel) rfl
theorem ml_RX8_346 : Cond.methodLink RX8 346 yX8_readsLine ∈ lwg := lwg_7 27 (by decide +kernel) rfl
theorem ml_RX8_349 : Cond.methodLink RX8 349 yX8_readsItem ∈ lwg := lwg_7 7 (by decide +kernel) rfl
theorem ml_RX8_354 : Cond.methodLink RX8 354 yX8_narrow ∈ lwg := lwg_7 40 (by decide +kernel) rfl
theorem ml_RX8_358 : Cond.methodLink RX8 358 yX8_sendsAll ∈ lwg := lwg_7 75 (by decide +kernel) rfl
theorem ml_RX8_361 : Cond.methodLink RX8 361 yX8_keeps ∈ lwg := lwg_7 63 (by decide +kernel) rfl
theorem ml_RX8_365 : Cond.methodLink RX8 365 yX8_goesBy ∈ lwg := lwg_7 71 (by decide +kernel) rfl
theorem ml_RX8_368 : Cond.methodLink RX8 368 yX8_comesBack ∈ lwg := lwg_7 79 (by decide +kernel) rfl
theorem ml_RX8_371 : Cond.methodLink RX8 371 yX8_plans ∈ lwg := lwg_7 59 (by decide +kernel) rfl
theorem ml_RX8_375 : Cond.methodLink RX8 375 yX8_puts ∈ lwg := lwg_7 67 (by decide +kernel) rfl
theorem ml_RX8_379 : Cond.methodLink RX8 379 yX8_gets ∈ lwg := lwg_7 83 (by decide +kernel) rfl
theorem mo_J0_charAt_5068e : MO mJ0_charAt_5068e := ⟨by decide +kernel, rfl, lwg_4 103 rfl rfl, lwg_1 13 (by decide +kernel) rfl, by decide +kernel, by decide +kernel⟩
theorem np_J0_charAt_5068e : npar mJ0_charAt_5068e 1 := (by decide +kernel : (parseMethodDescriptor yJ0_charAt_5068e.desc).map (fun q => q.parameters.length) = some 1)
theorem im_J0_charAt_5068e : Cond.instanceMethod yJ0_charAt_5068e ∈ lwg := lwg_4 101 (by decide +kernel) rfl
theorem se_J0_charAt_5068e : Cond.selects RJ0 yJ0_charAt_5068e yJ0_charAt_5068e ∈ lwg := lwg_4 102 (by decide +kernel) rfl
theorem mo_J0_checkIndex_df160 : MO mJ0_checkIndex_df160 := ⟨by decide +kernel, rfl, lwg_4 113 rfl rfl, lwg_1 13 (by decide +kernel) rfl, by decide +kernel, by decide +kernel⟩
theorem np_J0_checkIndex_df160 : npar mJ0_checkIndex_df160 2 := (by decide +kernel : (parseMethodDescriptor yJ0_checkIndex_df160.desc).map (fun q => q.parameters.length) = some 2)
theorem sc_J0_checkIndex_df160 : Cond.static yJ0_checkIndex_df160 ∈ lwg := lwg_4 112 (by decide +kernel) rfl
theorem mo_J0_coder_7d493 : MO mJ0_coder_7d493 := ⟨by decide +kernel, rfl, lwg_4 97 rfl rfl, lwg_1 13 (by decide +kernel) rfl, by decide +kernel, by decide +kernel⟩
theorem np_J0_coder_7d493 : npar mJ0_coder_7d493 0 := (by decide +kernel : (parseMethodDescriptor yJ0_coder_7d493.desc).map (fun q => q.parameters.length) = some 0)
theorem im_J0_coder_7d493 : Cond.instanceMethod yJ0_coder_7d493 ∈ lwg := lwg_4 95 (by decide +kernel) rfl
theorem se_J0_coder_7d493 : Cond.selects RJ0 yJ0_coder_7d493 yJ0_coder_7d493 ∈ lwg := lwg_4 96 (by decide +kernel) rfl
theorem mo_J0_isLatin1_aae02 : MO mJ0_isLatin1_aae02 := ⟨by decide +kernel, rfl, lwg_4 107 rfl rfl, lwg_1 13 (by decide +kernel) rfl, by decide +kernel, by decide +kernel⟩
theorem np_J0_isLatin1_aae02 : npar mJ0_isLatin1_aae02 0 := (by decide +kernel : (parseMethodDescriptor yJ0_isLatin1_aae02.desc).map (fun q => q.parameters.length) = some 0)
theorem im_J0_isLatin1_aae02 : Cond.instanceMethod yJ0_isLatin1_aae02 ∈ lwg := lwg_4 105 (by decide +kernel) rfl
theorem se_J0_isLatin1_aae02 : Cond.selects RJ0 yJ0_isLatin1_aae02 yJ0_isLatin1_aae02 ∈ lwg := lwg_4 106 (by decide +kernel) rfl
theorem mo_J0_length_8abf5 : MO mJ0_length_8abf5 := ⟨by decide +kernel, rfl, lwg_4 93 rfl rfl, lwg_1 13 (by decide +kernel) rfl, by decide +kernel, by decide +kernel⟩
theorem np_J0_length_8abf5 : npar mJ0_length_8abf5 0 := (by decide +kernel : (parseMethodDescriptor yJ0_length_8abf5.desc).map (fun q => q.parameters.length) = some 0)
theorem im_J0_length_8abf5 : Cond.instanceMethod yJ0_length_8abf5 ∈ lwg := lwg_4 91 (by decide +kernel) rfl
theorem se_J0_length_8abf5 : Cond.selects RJ0 yJ0_length_8abf5 yJ0_length_8abf5 ∈ lwg := lwg_4 92 (by decide +kernel) rfl
theorem mo_J1_charAt_3b067 : MO mJ1_charAt_3b067 := ⟨by decide +kernel, rfl, lwg_4 110 rfl rfl, lwg_1 14 (by decide +kernel) rfl, by decide +kernel, by decide +kernel⟩
theorem np_J1_charAt_3b067 : npar mJ1_charAt_3b067 2 := (by decide +kernel : (parseMethodDescriptor yJ1_charAt_3b067.desc).map (fun q => q.parameters.length) = some 2)
theorem sc_J1_charAt_3b067 : Cond.static yJ1_charAt_3b067 ∈ lwg := lwg_4 109 (by decide +kernel) rfl
theorem mo_J3_checkIndex_8e157 : MO mJ3_checkIndex_8e157 := ⟨by decide +kernel, rfl, lwg_4 118 rfl rfl, lwg_1 15 (by decide +kernel) rfl, by decide +kernel, by decide +kernel⟩
theorem np_J3_checkIndex_8e157 : npar mJ3_checkIndex_8e157 3 := (by decide +kernel : (parseMethodDescriptor yJ3_checkIndex_8e157.desc).map (fun q => q.parameters.length) = some 3)
theorem sc_J3_checkIndex_8e157 : Cond.static yJ3_checkIndex_8e157 ∈ lwg := lwg_4 117 (by decide +kernel) rfl
theorem mo_J7_fill_53178 : MO mJ7_fill_53178 := ⟨by decide +kernel, rfl, lwg_2 122 rfl rfl, lwg_1 10 (by decide +kernel) rfl, by decide +kernel, by decide +kernel⟩
theorem np_J7_fill_53178 : npar mJ7_fill_53178 2 := (by decide +kernel : (parseMethodDescriptor yJ7_fill_53178.desc).map (fun q => q.parameters.length) = some 2)
theorem sc_J7_fill_53178 : Cond.static yJ7_fill_53178 ∈ lwg := lwg_2 121 (by decide +kernel) rfl
theorem mo_J7_fill_d0a16 : MO mJ7_fill_d0a16 := ⟨by decide +kernel, rfl, lwg_4 202 rfl rfl, lwg_1 10 (by decide +kernel) rfl, by decide +kernel, by decide +kernel⟩
theorem np_J7_fill_d0a16 : npar mJ7_fill_d0a16 2 := (by decide +kernel : (parseMethodDescriptor yJ7_fill_d0a16.desc).map (fun q => q.parameters.length) = some 2)
theorem sc_J7_fill_d0a16 : Cond.static yJ7_fill_d0a16 ∈ lwg := lwg_4 201 (by decide +kernel) rfl
theorem mo_X0_become : MO mX0_become := ⟨by decide +kernel, rfl, lwg_3 195 rfl rfl, lwg_1 4 (by decide +kernel) rfl, by decide +kernel, by decide +kernel⟩
theorem np_X0_become : npar mX0_become 1 := (by decide +kernel : (parseMethodDescriptor yX0_become.desc).map (fun q => q.parameters.length) = some 1)
theorem im_X0_become : Cond.instanceMethod yX0_become ∈ lwg := lwg_3 193 (by decide +kernel) rfl
theorem se_X0_become : Cond.selects RX0 yX0_become yX0_become ∈ lwg := lwg_3 194 (by decide +kernel) rfl
theorem mo_X0_greatest : MO mX0_greatest := ⟨by decide +kernel, rfl, lwg_2 185 rfl rfl, lwg_1 4 (by decide +kernel) rfl, by decide +kernel, by decide +kernel⟩
theorem np_X0_greatest : npar mX0_greatest 1 := (by decide +kernel : (parseMethodDescriptor yX0_greatest.desc).map (fun q => q.parameters.length) = some 1)
theorem sc_X0_greatest : Cond.static yX0_greatest ∈ lwg := lwg_2 184 (by decide +kernel) rfl
theorem mo_X0_least : MO mX0_least := ⟨by decide +kernel, rfl, lwg_2 182 rfl rfl, lwg_1 4 (by decide +kernel) rfl, by decide +kernel, by decide +kernel⟩
theorem np_X0_least : npar mX0_least 1 := (by decide +kernel : (parseMethodDescriptor yX0_least.desc).map (fun q => q.parameters.length) = some 1)
theorem sc_X0_least : Cond.static yX0_least ∈ lwg := lwg_2 181 (by decide +kernel) rfl
theorem mo_X0_replace : MO mX0_replace := ⟨by decide +kernel, rfl, lwg_2 190 rfl rfl, lwg_1 4 (by decide +kernel) rfl, by decide +kernel, by decide +kernel⟩
theorem np_X0_replace : npar mX0_replace 2 := (by decide +kernel : (parseMethodDescriptor yX0_replace.desc).map (fun q => q.parameters.length) = some 2)
theorem im_X0_replace : Cond.instanceMethod yX0_replace ∈ lwg := lwg_2 188 (by decide +kernel) rfl
theorem se_X0_replace : Cond.selects RX0 yX0_replace yX0_replace ∈ lwg := lwg_2 189 (by decide +kernel) rfl
theorem mo_X0_room : MO mX0_room := ⟨by decide +kernel, rfl, lwg_2 152 rfl rfl, lwg_1 4 (by decide +kernel) rfl, by decide +kernel, by decide +kernel⟩
theorem np_X0_room : npar mX0_room 1 := (by decide +kernel : (parseMethodDescriptor yX0_room.desc).map (fun q => q.parameters.length) = some 1)
theorem im_X0_room : Cond.instanceMethod yX0_room ∈ lwg := lwg_2 150 (by decide +kernel) rfl
theorem se_X0_room : Cond.selects RX0 yX0_room yX0_room ∈ lwg := lwg_2 151 (by decide +kernel) rfl
theorem mo_X0_setting : MO mX0_setting := ⟨by decide +kernel, rfl, lwg_2 164 rfl rfl, lwg_1 4 (by decide +kernel) rfl, by decide +kernel, by decide +kernel⟩
theorem np_X0_setting : npar mX0_setting 1 := (by decide +kernel : (parseMethodDescriptor yX0_setting.desc).map (fun q => q.parameters.length) = some 1)
theorem im_X0_setting : Cond.instanceMethod yX0_setting ∈ lwg := lwg_2 162 (by decide +kernel) rfl
theorem se_X0_setting : Cond.selects RX0 yX0_setting yX0_setting ∈ lwg := lwg_2 163 (by decide +kernel) rfl
theorem mo_X0_takes : MO mX0_takes := ⟨by decide +kernel, rfl, lwg_2 156 rfl rfl, lwg_1 4 (by decide +kernel) rfl, by decide +kernel, by decide +kernel⟩
theorem np_X0_takes : npar mX0_takes 0 := (by decide +kernel : (parseMethodDescriptor yX0_takes.desc).map (fun q => q.parameters.length) = some 0)
theorem im_X0_takes : Cond.instanceMethod yX0_takes ∈ lwg := lwg_2 154 (by decide +kernel) rfl
theorem se_X0_takes : Cond.selects RX0 yX0_takes yX0_takes ∈ lwg := lwg_2 155 (by decide +kernel) rfl
theorem mo_X0_underWay : MO mX0_underWay := ⟨by decide +kernel, rfl, lwg_2 140 rfl rfl, lwg_1 4 (by decide +kernel) rfl, by decide +kernel, by decide +kernel⟩
theorem np_X0_underWay : npar mX0_underWay 0 := (by decide +kernel : (parseMethodDescriptor yX0_underWay.desc).map (fun q => q.parameters.length) = some 0)
theorem im_X0_underWay : Cond.instanceMethod yX0_underWay ∈ lwg := lwg_2 138 (by decide +kernel) rfl
theorem se_X0_underWay : Cond.selects RX0 yX0_underWay yX0_underWay ∈ lwg := lwg_2 139 (by decide +kernel) rfl
theorem mo_X1_addArc : MO mX1_addArc := ⟨by decide +kernel, rfl, lwg_3 53 rfl rfl, lwg_1 5 (by decide +kernel) rfl, by decide +kernel, by decide +kernel⟩
theorem np_X1_addArc : npar mX1_addArc 4 := (by decide +kernel : (parseMethodDescriptor yX1_addArc.desc).map (fun q => q.parameters.length) = some 4)
theorem im_X1_addArc : Cond.instanceMethod yX1_addArc ∈ lwg := lwg_3 52 (by decide +kernel) rfl
theorem se_X1_addArc : Cond.selects RX1 yX1_addArc yX1_addArc ∈ lwg := lwg_0 5 (by decide +kernel) rfl
theorem mo_X1_addTick : MO mX1_addTick := ⟨by decide +kernel, rfl, lwg_3 41 rfl rfl, lwg_1 5 (by decide +kernel) rfl, by decide +kernel, by decide +kernel⟩
theorem np_X1_addTick : npar mX1_addTick 1 := (by decide +kernel : (parseMethodDescriptor yX1_addTick.desc).map (fun q => q.parameters.length) = some 1)
theorem im_X1_addTick : Cond.instanceMethod yX1_addTick ∈ lwg := lwg_3 40 (by decide +kernel) rfl
theorem se_X1_addTick : Cond.selects RX1 yX1_addTick yX1_addTick ∈ lwg := lwg_0 3 (by decide +kernel) rfl
theorem mo_X1_busyLines : MO mX1_busyLines := ⟨by decide +kernel, rfl, lwg_3 158 rfl rfl, lwg_1 5 (by decide +kernel) rfl, by decide +kernel, by decide +kernel⟩
theorem np_X1_busyLines : npar mX1_busyLines 0 := (by decide +kernel : (parseMethodDescriptor yX1_busyLines.desc).map (fun q => q.parameters.length) = some 0)
theorem im_X1_busyLines : Cond.instanceMethod yX1_busyLines ∈ lwg := lwg_3 156 (by decide +kernel) rfl
theorem se_X1_busyLines : Cond.selects RX1 yX1_busyLines yX1_busyLines ∈ lwg := lwg_3 157 (by decide +kernel) rfl
theorem mo_X1_canStillSendFrom : MO mX1_canStillSendFrom := ⟨by decide +kernel, rfl, lwg_3 209 rfl rfl, lwg_1 5 (by decide +kernel) rfl, by decide +kernel, by decide +kernel⟩
theorem np_X1_canStillSendFrom : npar mX1_canStillSendFrom 1 := (by decide +kernel : (parseMethodDescriptor yX1_canStillSendFrom.desc).map (fun q => q.parameters.length) = some 1)
theorem im_X1_canStillSendFrom : Cond.instanceMethod yX1_canStillSendFrom ∈ lwg := lwg_3 207 (by decide +kernel) rfl
theorem se_X1_canStillSendFrom : Cond.selects RX1 yX1_canStillSendFrom yX1_canStillSendFrom ∈ lwg := lwg_3 208 (by decide +kernel) rfl
theorem mo_X1_fill : MO mX1_fill := ⟨by decide +kernel, rfl, lwg_3 77 rfl rfl, lwg_1 5 (by decide +kernel) rfl, by decide +kernel, by decide +kernel⟩
theorem np_X1_fill : npar mX1_fill 0 := (by decide +kernel : (parseMethodDescriptor yX1_fill.desc).map (fun q => q.parameters.length) = some 0)
theorem im_X1_fill : Cond.instanceMethod yX1_fill ∈ lwg := lwg_3 76 (by decide +kernel) rfl
theorem se_X1_fill : Cond.selects RX1 yX1_fill yX1_fill ∈ lwg := lwg_0 8 (by decide +kernel) rfl
theorem mo_X1_findLevels : MO mX1_findLevels := ⟨by decide +kernel, rfl, lwg_3 73 rfl rfl, lwg_1 5 (by decide +kernel) rfl, by decide +kernel, by decide +kernel⟩
theorem np_X1_findLevels : npar mX1_findLevels 0 := (by decide +kernel : (parseMethodDescriptor yX1_findLevels.desc).map (fun q => q.parameters.length) = some 0)
theorem im_X1_findLevels : Cond.instanceMethod yX1_findLevels ∈ lwg := lwg_3 72 (by decide +kernel) rfl
theorem se_X1_findLevels : Cond.selects RX1 yX1_findLevels yX1_findLevels ∈ lwg := lwg_0 7 (by decide +kernel) rfl
theorem mo_X1_flowBehind : MO mX1_flowBehind := ⟨by decide +kernel, rfl, lwg_3 37 rfl rfl, lwg_1 5 (by decide +kernel) rfl, by decide +kernel, by decide +kernel⟩
theorem np_X1_flowBehind : npar mX1_flowBehind 1 := (by decide +kernel : (parseMethodDescriptor yX1_flowBehind.desc).map (fun q => q.parameters.length) = some 1)
theorem im_X1_flowBehind : Cond.instanceMethod yX1_flowBehind ∈ lwg := lwg_3 35 (by decide +kernel) rfl
theorem se_X1_flowBehind : Cond.selects RX1 yX1_flowBehind yX1_flowBehind ∈ lwg := lwg_3 36 (by decide +kernel) rfl
theorem mo_X1_hold : MO mX1_hold := ⟨by decide +kernel, rfl, lwg_3 170 rfl rfl, lwg_1 5 (by decide +kernel) rfl, by decide +kernel, by decide +kernel⟩
theorem np_X1_hold : npar mX1_hold 2 := (by decide +kernel : (parseMethodDescriptor yX1_hold.desc).map (fun q => q.parameters.length) = some 2)
theorem im_X1_hold : Cond.instanceMethod yX1_hold ∈ lwg := lwg_3 168 (by decide +kernel) rfl
theorem se_X1_hold : Cond.selects RX1 yX1_hold yX1_hold ∈ lwg := lwg_3 169 (by decide +kernel) rfl
theorem mo_X1_leadsDown : MO mX1_leadsDown := ⟨by decide +kernel, rfl, lwg_3 94 rfl rfl, lwg_1 5 (by decide +kernel) rfl, by decide +kernel, by decide +kernel⟩
theorem np_X1_leadsDown : npar mX1_leadsDown 2 := (by decide +kernel : (parseMethodDescriptor yX1_leadsDown.desc).map (fun q => q.parameters.length) = some 2)
theorem im_X1_leadsDown : Cond.instanceMethod yX1_leadsDown ∈ lwg := lwg_3 93 (by decide +kernel) rfl
theorem se_X1_leadsDown : Cond.selects RX1 yX1_leadsDown yX1_leadsDown ∈ lwg := lwg_0 11 (by decide +kernel) rfl
theorem mo_X1_nextDown : MO mX1_nextDown := ⟨by decide +kernel, rfl, lwg_3 90 rfl rfl, lwg_1 5 (by decide +kernel) rfl, by decide +kernel, by decide +kernel⟩
theorem np_X1_nextDown : npar mX1_nextDown 1 := (by decide +kernel : (parseMethodDescriptor yX1_nextDown.desc).map (fun q => q.parameters.length) = some 1)
theorem im_X1_nextDown : Cond.instanceMethod yX1_nextDown ∈ lwg := lwg_3 89 (by decide +kernel) rfl
theorem se_X1_nextDown : Cond.selects RX1 yX1_nextDown yX1_nextDown ∈ lwg := lwg_0 10 (by decide +kernel) rfl
theorem mo_X1_node : MO mX1_node := ⟨by decide +kernel, rfl, lwg_3 49 rfl rfl, lwg_1 5 (by decide +kernel) rfl, by decide +kernel, by decide +kernel⟩
theorem np_X1_node : npar mX1_node 2 := (by decide +kernel : (parseMethodDescriptor yX1_node.desc).map (fun q => q.parameters.length) = some 2)
theorem im_X1_node : Cond.instanceMethod yX1_node ∈ lwg := lwg_3 48 (by decide +kernel) rfl
theorem se_X1_node : Cond.selects RX1 yX1_node yX1_node ∈ lwg := lwg_0 4 (by decide +kernel) rfl
theorem mo_X1_open : MO mX1_open := ⟨by decide +kernel, rfl, lwg_3 32 rfl rfl, lwg_1 5 (by decide +kernel) rfl, by decide +kernel, by decide +kernel⟩
theorem np_X1_open : npar mX1_open 2 := (by decide +kernel : (parseMethodDescriptor yX1_open.desc).map (fun q => q.parameters.length) = some 2)
theorem im_X1_open : Cond.instanceMethod yX1_open ∈ lwg := lwg_3 30 (by decide +kernel) rfl
theorem se_X1_open : Cond.selects RX1 yX1_open yX1_open ∈ lwg := lwg_3 31 (by decide +kernel) rfl
theorem mo_X1_peak : MO mX1_peak := ⟨by decide +kernel, rfl, lwg_3 162 rfl rfl, lwg_1 5 (by decide +kernel) rfl, by decide +kernel, by decide +kernel⟩
theorem np_X1_peak : npar mX1_peak 1 := (by decide +kernel : (parseMethodDescriptor yX1_peak.desc).map (fun q => q.parameters.length) = some 1)
theorem im_X1_peak : Cond.instanceMethod yX1_peak ∈ lwg := lwg_3 160 (by decide +kernel) rfl
theorem se_X1_peak : Cond.selects RX1 yX1_peak yX1_peak ∈ lwg := lwg_3 161 (by decide +kernel) rfl
theorem mo_X1_push : MO mX1_push := ⟨by decide +kernel, rfl, lwg_3 85 rfl rfl, lwg_1 5 (by decide +kernel) rfl, by decide +kernel, by decide +kernel⟩
theorem np_X1_push : npar mX1_push 1 := (by decide +kernel : (parseMethodDescriptor yX1_push.desc).map (fun q => q.parameters.length) = some 1)
theorem im_X1_push : Cond.instanceMethod yX1_push ∈ lwg := lwg_3 84 (by decide +kernel) rfl
theorem se_X1_push : Cond.selects RX1 yX1_push yX1_push ∈ lwg := lwg_0 9 (by decide +kernel) rfl
theorem mo_X1_putArc : MO mX1_putArc := ⟨by decide +kernel, rfl, lwg_3 57 rfl rfl, lwg_1 5 (by decide +kernel) rfl, by decide +kernel, by decide +kernel⟩
theorem np_X1_putArc : npar mX1_putArc 3 := (by decide +kernel : (parseMethodDescriptor yX1_putArc.desc).map (fun q => q.parameters.length) = some 3)
theorem im_X1_putArc : Cond.instanceMethod yX1_putArc ∈ lwg := lwg_3 56 (by decide +kernel) rfl
theorem se_X1_putArc : Cond.selects RX1 yX1_putArc yX1_putArc ∈ lwg := lwg_0 6 (by decide +kernel) rfl
theorem mo_X1_searchNear : MO mX1_searchNear := ⟨by decide +kernel, rfl, lwg_3 121 rfl rfl, lwg_1 5 (by decide +kernel) rfl, by decide +kernel, by decide +kernel⟩
theorem np_X1_searchNear : npar mX1_searchNear 0 := (by decide +kernel : (parseMethodDescriptor yX1_searchNear.desc).map (fun q => q.parameters.length) = some 0)
theorem im_X1_searchNear : Cond.instanceMethod yX1_searchNear ∈ lwg := lwg_3 119 (by decide +kernel) rfl
theorem se_X1_searchNear : Cond.selects RX1 yX1_searchNear yX1_searchNear ∈ lwg := lwg_3 120 (by decide +kernel) rfl
theorem mo_X1_stationsNear : MO mX1_stationsNear := ⟨by decide +kernel, rfl, lwg_3 178 rfl rfl, lwg_1 5 (by decide +kernel) rfl, by decide +kernel, by decide +kernel⟩
theorem np_X1_stationsNear : npar mX1_stationsNear 0 := (by decide +kernel : (parseMethodDescriptor yX1_stationsNear.desc).map (fun q => q.parameters.length) = some 0)
theorem im_X1_stationsNear : Cond.instanceMethod yX1_stationsNear ∈ lwg := lwg_3 176 (by decide +kernel) rfl
theorem se_X1_stationsNear : Cond.selects RX1 yX1_stationsNear yX1_stationsNear ∈ lwg := lwg_3 177 (by decide +kernel) rfl
theorem mo_X1_ticksNear : MO mX1_ticksNear := ⟨by decide +kernel, rfl, lwg_3 125 rfl rfl, lwg_1 5 (by decide +kernel) rfl, by decide +kernel, by decide +kernel⟩
theorem np_X1_ticksNear : npar mX1_ticksNear 1 := (by decide +kernel : (parseMethodDescriptor yX1_ticksNear.desc).map (fun q => q.parameters.length) = some 1)
theorem im_X1_ticksNear : Cond.instanceMethod yX1_ticksNear ∈ lwg := lwg_3 123 (by decide +kernel) rfl
theorem se_X1_ticksNear : Cond.selects RX1 yX1_ticksNear yX1_ticksNear ∈ lwg := lwg_3 124 (by decide +kernel) rfl
theorem mo_X2_entry : MO mX2_entry := ⟨by decide +kernel, rfl, lwg_3 138 rfl rfl, lwg_1 8 (by decide +kernel) rfl, by decide +kernel, by decide +kernel⟩
theorem np_X2_entry : npar mX2_entry 2 := (by decide +kernel : (parseMethodDescriptor yX2_entry.desc).map (fun q => q.parameters.length) = some 2)
theorem im_X2_entry : Cond.instanceMethod yX2_entry ∈ lwg := lwg_3 136 (by decide +kernel) rfl
theorem se_X2_entry : Cond.selects RX2 yX2_entry yX2_entry ∈ lwg := lwg_3 137 (by decide +kernel) rfl
theorem mo_X2_hasBits : MO mX2_hasBits := ⟨by decide +kernel, rfl, lwg_4 195 rfl rfl, lwg_1 8 (by decide +kernel) rfl, by decide +kernel, by decide +kernel⟩
theorem np_X2_hasBits : npar mX2_hasBits 1 := (by decide +kernel : (parseMethodDescriptor yX2_hasBits.desc).map (fun q => q.parameters.length) = some 1)
theorem sc_X2_hasBits : Cond.static yX2_hasBits ∈ lwg := lwg_4 194 (by decide +kernel) rfl
theorem mo_X2_hasPart : MO mX2_hasPart := ⟨by decide +kernel, rfl, lwg_4 219 rfl rfl, lwg_1 8 (by decide +kernel) rfl, by decide +kernel, by decide +kernel⟩
theorem np_X2_hasPart : npar mX2_hasPart 2 := (by decide +kernel : (parseMethodDescriptor yX2_hasPart.desc).map (fun q => q.parameters.length) = some 2)
theorem im_X2_hasPart : Cond.instanceMethod yX2_hasPart ∈ lwg := lwg_4 217 (by decide +kernel) rfl
theorem se_X2_hasPart : Cond.selects RX2 yX2_hasPart yX2_hasPart ∈ lwg := lwg_4 218 (by decide +kernel) rfl
theorem mo_X2_put : MO mX2_put := ⟨by decide +kernel, rfl, lwg_4 211 rfl rfl, lwg_1 8 (by decide +kernel) rfl, by decide +kernel, by decide +kernel⟩
theorem np_X2_put : npar mX2_put 2 := (by decide +kernel : (parseMethodDescriptor yX2_put.desc).map (fun q => q.parameters.length) = some 2)
theorem im_X2_put : Cond.instanceMethod yX2_put ∈ lwg := lwg_4 209 (by decide +kernel) rfl
theorem se_X2_put : Cond.selects RX2 yX2_put yX2_put ∈ lwg := lwg_4 210 (by decide +kernel) rfl
theorem mo_X2_renew : MO mX2_renew := ⟨by decide +kernel, rfl, lwg_4 199 rfl rfl, lwg_1 8 (by decide +kernel) rfl, by decide +kernel, by decide +kernel⟩
theorem np_X2_renew : npar mX2_renew 2 := (by decide +kernel : (parseMethodDescriptor yX2_renew.desc).map (fun q => q.parameters.length) = some 2)
theorem im_X2_renew : Cond.instanceMethod yX2_renew ∈ lwg := lwg_4 197 (by decide +kernel) rfl
theorem se_X2_renew : Cond.selects RX2 yX2_renew yX2_renew ∈ lwg := lwg_4 198 (by decide +kernel) rfl
theorem mo_X3_become : MO mX3_become := ⟨by decide +kernel, rfl, lwg_3 191 rfl rfl, lwg_1 3 (by decide +kernel) rfl, by decide +kernel, by decide +kernel⟩
theorem np_X3_become : npar mX3_become 1 := (by decide +kernel : (parseMethodDescriptor yX3_become.desc).map (fun q => q.parameters.length) = some 1)
theorem im_X3_become : Cond.instanceMethod yX3_become ∈ lwg := lwg_3 189 (by decide +kernel) rfl
theorem se_X3_become : Cond.selects RX3 yX3_become yX3_become ∈ lwg := lwg_3 190 (by decide +kernel) rfl
theorem mo_X3_greatest : MO mX3_greatest := ⟨by decide +kernel, rfl, lwg_2 171 rfl rfl, lwg_1 3 (by decide +kernel) rfl, by decide +kernel, by decide +kernel⟩
theorem np_X3_greatest : npar mX3_greatest 1 := (by decide +kernel : (parseMethodDescriptor yX3_greatest.desc).map (fun q => q.parameters.length) = some 1)
theorem sc_X3_greatest : Cond.static yX3_greatest ∈ lwg := lwg_2 170 (by decide +kernel) rfl
theorem mo_X3_holds : MO mX3_holds := ⟨by decide +kernel, rfl, lwg_2 131 rfl rfl, lwg_1 3 (by decide +kernel) rfl, by decide +kernel, by decide +kernel⟩
theorem np_X3_holds : npar mX3_holds 1 := (by decide +kernel : (parseMethodDescriptor yX3_holds.desc).map (fun q => q.parameters.length) = some 1)
theorem im_X3_holds : Cond.instanceMethod yX3_holds ∈ lwg := lwg_2 129 (by decide +kernel) rfl
theorem se_X3_holds : Cond.selects RX3 yX3_holds yX3_holds ∈ lwg := lwg_2 130 (by decide +kernel) rfl
theorem mo_X3_replace : MO mX3_replace := ⟨by decide +kernel, rfl, lwg_2 175 rfl rfl, lwg_1 3 (by decide +kernel) rfl, by decide +kernel, by decide +kernel⟩
theorem np_X3_replace : npar mX3_replace 2 := (by decide +kernel : (parseMethodDescriptor yX3_replace.desc).map (fun q => q.parameters.length) = some 2)
theorem im_X3_replace : Cond.instanceMethod yX3_replace ∈ lwg := lwg_2 173 (by decide +kernel) rfl
theorem se_X3_replace : Cond.selects RX3 yX3_replace yX3_replace ∈ lwg := lwg_2 174 (by decide +kernel) rfl
theorem mo_X4_behind : MO mX4_behind := ⟨by decide +kernel, rfl, lwg_4 24 rfl rfl, lwg_1 6 (by decide +kernel) rfl, by decide +kernel, by decide +kernel⟩
theorem np_X4_behind : npar mX4_behind 1 := (by decide +kernel : (parseMethodDescriptor yX4_behind.desc).map (fun q => q.parameters.length) = some 1)
theorem im_X4_behind : Cond.instanceMethod yX4_behind ∈ lwg := lwg_4 22 (by decide +kernel) rfl
theorem se_X4_behind : Cond.selects RX4 yX4_behind yX4_behind ∈ lwg := lwg_4 23 (by decide +kernel) rfl
theorem mo_X4_findQuickest : MO mX4_findQuickest := ⟨by decide +kernel, rfl, lwg_3 232 rfl rfl, lwg_1 6 (by decide +kernel) rfl, by decide +kernel, by decide +kernel⟩
theorem np_X4_findQuickest : npar mX4_findQuickest 2 := (by decide +kernel : (parseMethodDescriptor yX4_findQuickest.desc).map (fun q => q.parameters.length) = some 2)
theorem im_X4_findQuickest : Cond.instanceMethod yX4_findQuickest ∈ lwg := lwg_3 231 (by decide +kernel) rfl
theorem se_X4_findQuickest : Cond.selects RX4 yX4_findQuickest yX4_findQuickest ∈ lwg := lwg_0 16 (by decide +kernel) rfl
theorem mo_X4_head : MO mX4_head := ⟨by decide +kernel, rfl, lwg_4 9 rfl rfl, lwg_1 6 (by decide +kernel) rfl, by decide +kernel, by decide +kernel⟩
theorem np_X4_head : npar mX4_head 1 := (by decide +kernel : (parseMethodDescriptor yX4_head.desc).map (fun q => q.parameters.length) = some 1)
theorem im_X4_head : Cond.instanceMethod yX4_head ∈ lwg := lwg_4 8 (by decide +kernel) rfl
theorem se_X4_head : Cond.selects RX4 yX4_head yX4_head ∈ lwg := lwg_0 20 (by decide +kernel) rfl
theorem mo_X4_improve : MO mX4_improve := ⟨by decide +kernel, rfl, lwg_3 236 rfl rfl, lwg_1 6 (by decide +kernel) rfl, by decide +kernel, by decide +kernel⟩
theorem np_X4_improve : npar mX4_improve 1 := (by decide +kernel : (parseMethodDescriptor yX4_improve.desc).map (fun q => q.parameters.length) = some 1)
theorem im_X4_improve : Cond.instanceMethod yX4_improve ∈ lwg := lwg_3 235 (by decide +kernel) rfl
theorem se_X4_improve : Cond.selects RX4 yX4_improve yX4_improve ∈ lwg := lwg_0 17 (by decide +kernel) rfl
theorem mo_X4_narrowest : MO mX4_narrowest := ⟨by decide +kernel, rfl, lwg_4 13 rfl rfl, lwg_1 6 (by decide +kernel) rfl, by decide +kernel, by decide +kernel⟩
theorem np_X4_narrowest : npar mX4_narrowest 2 := (by decide +kernel : (parseMethodDescriptor yX4_narrowest.desc).map (fun q => q.parameters.length) = some 2)
theorem im_X4_narrowest : Cond.instanceMethod yX4_narrowest ∈ lwg := lwg_4 12 (by decide +kernel) rfl
theorem se_X4_narrowest : Cond.selects RX4 yX4_narrowest yX4_narrowest ∈ lwg := lwg_0 21 (by decide +kernel) rfl
theorem mo_X4_push : MO mX4_push := ⟨by decide +kernel, rfl, lwg_4 19 rfl rfl, lwg_1 6 (by decide +kernel) rfl, by decide +kernel, by decide +kernel⟩
theorem np_X4_push : npar mX4_push 3 := (by decide +kernel : (parseMethodDescriptor yX4_push.desc).map (fun q => q.parameters.length) = some 3)
theorem im_X4_push : Cond.instanceMethod yX4_push ∈ lwg := lwg_4 18 (by decide +kernel) rfl
theorem se_X4_push : Cond.selects RX4 yX4_push yX4_push ∈ lwg := lwg_0 22 (by decide +kernel) rfl
theorem mo_X4_room : MO mX4_room := ⟨by decide +kernel, rfl, lwg_4 4 rfl rfl, lwg_1 6 (by decide +kernel) rfl, by decide +kernel, by decide +kernel⟩
theorem np_X4_room : npar mX4_room 1 := (by decide +kernel : (parseMethodDescriptor yX4_room.desc).map (fun q => q.parameters.length) = some 1)
theorem im_X4_room : Cond.instanceMethod yX4_room ∈ lwg := lwg_4 3 (by decide +kernel) rfl
theorem se_X4_room : Cond.selects RX4 yX4_room yX4_room ∈ lwg := lwg_0 19 (by decide +kernel) rfl
theorem mo_X4_solve : MO mX4_solve := ⟨by decide +kernel, rfl, lwg_3 225 rfl rfl, lwg_1 6 (by decide +kernel) rfl, by decide +kernel, by decide +kernel⟩
theorem np_X4_solve : npar mX4_solve 3 := (by decide +kernel : (parseMethodDescriptor yX4_solve.desc).map (fun q => q.parameters.length) = some 3)
theorem im_X4_solve : Cond.instanceMethod yX4_solve ∈ lwg := lwg_3 223 (by decide +kernel) rfl
theorem se_X4_solve : Cond.selects RX4 yX4_solve yX4_solve ∈ lwg := lwg_3 224 (by decide +kernel) rfl
theorem mo_X4_tail : MO mX4_tail := ⟨by decide +kernel, rfl, lwg_4 0 rfl rfl, lwg_1 6 (by decide +kernel) rfl, by decide +kernel, by decide +kernel⟩
theorem np_X4_tail : npar mX4_tail 1 := (by decide +kernel : (parseMethodDescriptor yX4_tail.desc).map (fun q => q.parameters.length) = some 1)
theorem im_X4_tail : Cond.instanceMethod yX4_tail ∈ lwg := lwg_3 239 (by decide +kernel) rfl
theorem se_X4_tail : Cond.selects RX4 yX4_tail yX4_tail ∈ lwg := lwg_0 18 (by decide +kernel) rfl
theorem mo_X4_ticksUntil : MO mX4_ticksUntil := ⟨by decide +kernel, rfl, lwg_4 42 rfl rfl, lwg_1 6 (by decide +kernel) rfl, by decide +kernel, by decide +kernel⟩
theorem np_X4_ticksUntil : npar mX4_ticksUntil 1 := (by decide +kernel : (parseMethodDescriptor yX4_ticksUntil.desc).map (fun q => q.parameters.length) = some 1)
theorem im_X4_ticksUntil : Cond.instanceMethod yX4_ticksUntil ∈ lwg := lwg_4 40 (by decide +kernel) rfl
theorem se_X4_ticksUntil : Cond.selects RX4 yX4_ticksUntil yX4_ticksUntil ∈ lwg := lwg_4 41 (by decide +kernel) rfl
theorem mo_X5_add : MO mX5_add := ⟨by decide +kernel, rfl, lwg_4 53 rfl rfl, lwg_1 7 (by decide +kernel) rfl, by decide +kernel, by decide +kernel⟩
theorem np_X5_add : npar mX5_add 1 := (by decide +kernel : (parseMethodDescriptor yX5_add.desc).map (fun q => q.parameters.length) = some 1)
theorem im_X5_add : Cond.instanceMethod yX5_add ∈ lwg := lwg_4 51 (by decide +kernel) rfl
theorem se_X5_add : Cond.selects RX5 yX5_add yX5_add ∈ lwg := lwg_4 52 (by decide +kernel) rfl
theorem mo_X5_fail : MO mX5_fail := ⟨by decide +kernel, rfl, lwg_4 172 rfl rfl, lwg_1 7 (by decide +kernel) rfl, by decide +kernel, by decide +kernel⟩
theorem np_X5_fail : npar mX5_fail 0 := (by decide +kernel : (parseMethodDescriptor yX5_fail.desc).map (fun q => q.parameters.length) = some 0)
theorem im_X5_fail : Cond.instanceMethod yX5_fail ∈ lwg := lwg_4 171 (by decide +kernel) rfl
theorem se_X5_fail : Cond.selects RX5 yX5_fail yX5_fail ∈ lwg := lwg_0 32 (by decide +kernel) rfl
theorem mo_X5_isWord : MO mX5_isWord := ⟨by decide +kernel, rfl, lwg_4 89 rfl rfl, lwg_1 7 (by decide +kernel) rfl, by decide +kernel, by decide +kernel⟩
theorem np_X5_isWord : npar mX5_isWord 1 := (by decide +kernel : (parseMethodDescriptor yX5_isWord.desc).map (fun q => q.parameters.length) = some 1)
theorem im_X5_isWord : Cond.instanceMethod yX5_isWord ∈ lwg := lwg_4 88 (by decide +kernel) rfl
theorem se_X5_isWord : Cond.selects RX5 yX5_isWord yX5_isWord ∈ lwg := lwg_0 26 (by decide +kernel) rfl
theorem mo_X5_lineKind : MO mX5_lineKind := ⟨by decide +kernel, rfl, lwg_4 144 rfl rfl, lwg_1 7 (by decide +kernel) rfl, by decide +kernel, by decide +kernel⟩
theorem np_X5_lineKind : npar mX5_lineKind 0 := (by decide +kernel : (parseMethodDescriptor yX5_lineKind.desc).map (fun q => q.parameters.length) = some 0)
theorem im_X5_lineKind : Cond.instanceMethod yX5_lineKind ∈ lwg := lwg_4 143 (by decide +kernel) rfl
theorem se_X5_lineKind : Cond.selects RX5 yX5_lineKind yX5_lineKind ∈ lwg := lwg_0 27 (by decide +kernel) rfl
theorem mo_X5_readItem : MO mX5_readItem := ⟨by decide +kernel, rfl, lwg_4 80 rfl rfl, lwg_1 7 (by decide +kernel) rfl, by decide +kernel, by decide +kernel⟩
theorem np_X5_readItem : npar mX5_readItem 1 := (by decide +kernel : (parseMethodDescriptor yX5_readItem.desc).map (fun q => q.parameters.length) = some 1)
theorem im_X5_readItem : Cond.instanceMethod yX5_readItem ∈ lwg := lwg_4 78 (by decide +kernel) rfl
theorem se_X5_readItem : Cond.selects RX5 yX5_readItem yX5_readItem ∈ lwg := lwg_4 79 (by decide +kernel) rfl
theorem mo_X5_readLine : MO mX5_readLine := ⟨by decide +kernel, rfl, lwg_4 178 rfl rfl, lwg_1 7 (by decide +kernel) rfl, by decide +kernel, by decide +kernel⟩
theorem np_X5_readLine : npar mX5_readLine 2 := (by decide +kernel : (parseMethodDescriptor yX5_readLine.desc).map (fun q => q.parameters.length) = some 2)
theorem im_X5_readLine : Cond.instanceMethod yX5_readLine ∈ lwg := lwg_4 177 (by decide +kernel) rfl
theorem se_X5_readLine : Cond.selects RX5 yX5_readLine yX5_readLine ∈ lwg := lwg_0 33 (by decide +kernel) rfl
theorem mo_X5_readStation : MO mX5_readStation := ⟨by decide +kernel, rfl, lwg_4 154 rfl rfl, lwg_1 7 (by decide +kernel) rfl, by decide +kernel, by decide +kernel⟩
theorem np_X5_readStation : npar mX5_readStation 2 := (by decide +kernel : (parseMethodDescriptor yX5_readStation.desc).map (fun q => q.parameters.length) = some 2)
theorem im_X5_readStation : Cond.instanceMethod yX5_readStation ∈ lwg := lwg_4 153 (by decide +kernel) rfl
theorem se_X5_readStation : Cond.selects RX5 yX5_readStation yX5_readStation ∈ lwg := lwg_0 28 (by decide +kernel) rfl
theorem mo_X5_readToken : MO mX5_readToken := ⟨by decide +kernel, rfl, lwg_4 69 rfl rfl, lwg_1 7 (by decide +kernel) rfl, by decide +kernel, by decide +kernel⟩
theorem np_X5_readToken : npar mX5_readToken 0 := (by decide +kernel : (parseMethodDescriptor yX5_readToken.desc).map (fun q => q.parameters.length) = some 0)
theorem im_X5_readToken : Cond.instanceMethod yX5_readToken ∈ lwg := lwg_4 68 (by decide +kernel) rfl
theorem se_X5_readToken : Cond.selects RX5 yX5_readToken yX5_readToken ∈ lwg := lwg_0 23 (by decide +kernel) rfl
theorem mo_X5_sortOf : MO mX5_sortOf := ⟨by decide +kernel, rfl, lwg_4 72 rfl rfl, lwg_1 7 (by decide +kernel) rfl, by decide +kernel, by decide +kernel⟩
theorem np_X5_sortOf : npar mX5_sortOf 1 := (by decide +kernel : (parseMethodDescriptor yX5_sortOf.desc).map (fun q => q.parameters.length) = some 1)
theorem sc_X5_sortOf : Cond.static yX5_sortOf ∈ lwg := lwg_4 71 (by decide +kernel) rfl
theorem mo_X5_start : MO mX5_start := ⟨by decide +kernel, rfl, lwg_4 65 rfl rfl, lwg_1 7 (by decide +kernel) rfl, by decide +kernel, by decide +kernel⟩
theorem np_X5_start : npar mX5_start 0 := (by decide +kernel : (parseMethodDescriptor yX5_start.desc).map (fun q => q.parameters.length) = some 0)
theorem im_X5_start : Cond.instanceMethod yX5_start ∈ lwg := lwg_4 63 (by decide +kernel) rfl
theorem se_X5_start : Cond.selects RX5 yX5_start yX5_start ∈ lwg := lwg_4 64 (by decide +kernel) rfl
theorem mo_X5_stationKind : MO mX5_stationKind := ⟨by decide +kernel, rfl, lwg_4 84 rfl rfl, lwg_1 7 (by decide +kernel) rfl, by decide +kernel, by decide +kernel⟩
theorem np_X5_stationKind : npar mX5_stationKind 0 := (by decide +kernel : (parseMethodDescriptor yX5_stationKind.desc).map (fun q => q.parameters.length) = some 0)
theorem im_X5_stationKind : Cond.instanceMethod yX5_stationKind ∈ lwg := lwg_4 83 (by decide +kernel) rfl
theorem se_X5_stationKind : Cond.selects RX5 yX5_stationKind yX5_stationKind ∈ lwg := lwg_0 25 (by decide +kernel) rfl
theorem mo_X5_takeNumber : MO mX5_takeNumber := ⟨by decide +kernel, rfl, lwg_4 167 rfl rfl, lwg_1 7 (by decide +kernel) rfl, by decide +kernel, by decide +kernel⟩
theorem np_X5_takeNumber : npar mX5_takeNumber 2 := (by decide +kernel : (parseMethodDescriptor yX5_takeNumber.desc).map (fun q => q.parameters.length) = some 2)
theorem im_X5_takeNumber : Cond.instanceMethod yX5_takeNumber ∈ lwg := lwg_4 166 (by decide +kernel) rfl
theorem se_X5_takeNumber : Cond.selects RX5 yX5_takeNumber yX5_takeNumber ∈ lwg := lwg_0 31 (by decide +kernel) rfl
theorem mo_X5_takeOption : MO mX5_takeOption := ⟨by decide +kernel, rfl, lwg_4 159 rfl rfl, lwg_1 7 (by decide +kernel) rfl, by decide +kernel, by decide +kernel⟩
theorem np_X5_takeOption : npar mX5_takeOption 4 := (by decide +kernel : (parseMethodDescriptor yX5_takeOption.desc).map (fun q => q.parameters.length) = some 4)
theorem im_X5_takeOption : Cond.instanceMethod yX5_takeOption ∈ lwg := lwg_4 158 (by decide +kernel) rfl
theorem se_X5_takeOption : Cond.selects RX5 yX5_takeOption yX5_takeOption ∈ lwg := lwg_0 29 (by decide +kernel) rfl
theorem mo_X5_takeSign : MO mX5_takeSign := ⟨by decide +kernel, rfl, lwg_4 187 rfl rfl, lwg_1 7 (by decide +kernel) rfl, by decide +kernel, by decide +kernel⟩
theorem np_X5_takeSign : npar mX5_takeSign 0 := (by decide +kernel : (parseMethodDescriptor yX5_takeSign.desc).map (fun q => q.parameters.length) = some 0)
theorem im_X5_takeSign : Cond.instanceMethod yX5_takeSign ∈ lwg := lwg_4 185 (by decide +kernel) rfl
theorem se_X5_takeSign : Cond.selects RX5 yX5_takeSign yX5_takeSign ∈ lwg := lwg_4 186 (by decide +kernel) rfl
theorem mo_X5_takeWord : MO mX5_takeWord := ⟨by decide +kernel, rfl, lwg_4 163 rfl rfl, lwg_1 7 (by decide +kernel) rfl, by decide +kernel, by decide +kernel⟩
theorem np_X5_takeWord : npar mX5_takeWord 1 := (by decide +kernel : (parseMethodDescriptor yX5_takeWord.desc).map (fun q => q.parameters.length) = some 1)
theorem im_X5_takeWord : Cond.instanceMethod yX5_takeWord ∈ lwg := lwg_4 162 (by decide +kernel) rfl
theorem se_X5_takeWord : Cond.selects RX5 yX5_takeWord yX5_takeWord ∈ lwg := lwg_0 30 (by decide +kernel) rfl
theorem mo_X5_valueOfToken : MO mX5_valueOfToken := ⟨by decide +kernel, rfl, lwg_4 76 rfl rfl, lwg_1 7 (by decide +kernel) rfl, by decide +kernel, by decide +kernel⟩
theorem np_X5_valueOfToken : npar mX5_valueOfToken 0 := (by decide +kernel : (parseMethodDescriptor yX5_valueOfToken.desc).map (fun q => q.parameters.length) = some 0)
theorem im_X5_valueOfToken : Cond.instanceMethod yX5_valueOfToken ∈ lwg := lwg_4 75 (by decide +kernel) rfl
theorem se_X5_valueOfToken : Cond.selects RX5 yX5_valueOfToken yX5_valueOfToken ∈ lwg := lwg_0 24 (by decide +kernel) rfl
theorem mo_X6_addLine : MO mX6_addLine := ⟨by decide +kernel, rfl, lwg_2 118 rfl rfl, lwg_1 2 (by decide +kernel) rfl, by decide +kernel, by decide +kernel⟩
theorem np_X6_addLine : npar mX6_addLine 3 := (by decide +kernel : (parseMethodDescriptor yX6_addLine.desc).map (fun q => q.parameters.length) = some 3)
theorem im_X6_addLine : Cond.instanceMethod yX6_addLine ∈ lwg := lwg_2 116 (by decide +kernel) rfl
theorem se_X6_addLine : Cond.selects RX6 yX6_addLine yX6_addLine ∈ lwg := lwg_2 117 (by decide +kernel) rfl
theorem mo_X6_addStation : MO mX6_addStation := ⟨by decide +kernel, rfl, lwg_2 101 rfl rfl, lwg_1 2 (by decide +kernel) rfl, by decide +kernel, by decide +kernel⟩
theorem np_X6_addStation : npar mX6_addStation 2 := (by decide +kernel : (parseMethodDescriptor yX6_addStation.desc).map (fun q => q.parameters.length) = some 2)
theorem im_X6_addStation : Cond.instanceMethod yX6_addStation ∈ lwg := lwg_2 99 (by decide +kernel) rfl
theorem se_X6_addStation : Cond.selects RX6 yX6_addStation yX6_addStation ∈ lwg := lwg_2 100 (by decide +kernel) rfl
theorem mo_X6_allGoods : MO mX6_allGoods := ⟨by decide +kernel, rfl, lwg_3 111 rfl rfl, lwg_1 2 (by decide +kernel) rfl, by decide +kernel, by decide +kernel⟩
theorem np_X6_allGoods : npar mX6_allGoods 0 := (by decide +kernel : (parseMethodDescriptor yX6_allGoods.desc).map (fun q => q.parameters.length) = some 0)
theorem im_X6_allGoods : Cond.instanceMethod yX6_allGoods ∈ lwg := lwg_3 109 (by decide +kernel) rfl
theorem se_X6_allGoods : Cond.selects RX6 yX6_allGoods yX6_allGoods ∈ lwg := lwg_3 110 (by decide +kernel) rfl
theorem mo_X6_allRoom : MO mX6_allRoom := ⟨by decide +kernel, rfl, lwg_3 8 rfl rfl, lwg_1 2 (by decide +kernel) rfl, by decide +kernel, by decide +kernel⟩
theorem np_X6_allRoom : npar mX6_allRoom 0 := (by decide +kernel : (parseMethodDescriptor yX6_allRoom.desc).map (fun q => q.parameters.length) = some 0)
theorem im_X6_allRoom : Cond.instanceMethod yX6_allRoom ∈ lwg := lwg_3 6 (by decide +kernel) rfl
theorem se_X6_allRoom : Cond.selects RX6 yX6_allRoom yX6_allRoom ∈ lwg := lwg_3 7 (by decide +kernel) rfl
theorem mo_X6_allSent : MO mX6_allSent := ⟨by decide +kernel, rfl, lwg_3 4 rfl rfl, lwg_1 2 (by decide +kernel) rfl, by decide +kernel, by decide +kernel⟩
theorem np_X6_allSent : npar mX6_allSent 0 := (by decide +kernel : (parseMethodDescriptor yX6_allSent.desc).map (fun q => q.parameters.length) = some 0)
theorem im_X6_allSent : Cond.instanceMethod yX6_allSent ∈ lwg := lwg_3 2 (by decide +kernel) rfl
theorem se_X6_allSent : Cond.selects RX6 yX6_allSent yX6_allSent ∈ lwg := lwg_3 3 (by decide +kernel) rfl
theorem mo_X6_allStock : MO mX6_allStock := ⟨by decide +kernel, rfl, lwg_2 236 rfl rfl, lwg_1 2 (by decide +kernel) rfl, by decide +kernel, by decide +kernel⟩
theorem np_X6_allStock : npar mX6_allStock 0 := (by decide +kernel : (parseMethodDescriptor yX6_allStock.desc).map (fun q => q.parameters.length) = some 0)
theorem im_X6_allStock : Cond.instanceMethod yX6_allStock ∈ lwg := lwg_2 234 (by decide +kernel) rfl
theorem se_X6_allStock : Cond.selects RX6 yX6_allStock yX6_allStock ∈ lwg := lwg_2 235 (by decide +kernel) rfl
theorem mo_X6_allUnderWay : MO mX6_allUnderWay := ⟨by decide +kernel, rfl, lwg_3 0 rfl rfl, lwg_1 2 (by decide +kernel) rfl, by decide +kernel, by decide +kernel⟩
theorem np_X6_allUnderWay : npar mX6_allUnderWay 0 := (by decide +kernel : (parseMethodDescriptor yX6_allUnderWay.desc).map (fun q => q.parameters.length) = some 0)
theorem im_X6_allUnderWay : Cond.instanceMethod yX6_allUnderWay ∈ lwg := lwg_2 238 (by decide +kernel) rfl
theorem se_X6_allUnderWay : Cond.selects RX6 yX6_allUnderWay yX6_allUnderWay ∈ lwg := lwg_2 239 (by decide +kernel) rfl
theorem mo_X6_areTwo : MO mX6_areTwo := ⟨by decide +kernel, rfl, lwg_2 109 rfl rfl, lwg_1 2 (by decide +kernel) rfl, by decide +kernel, by decide +kernel⟩
theorem np_X6_areTwo : npar mX6_areTwo 2 := (by decide +kernel : (parseMethodDescriptor yX6_areTwo.desc).map (fun q => q.parameters.length) = some 2)
theorem im_X6_areTwo : Cond.instanceMethod yX6_areTwo ∈ lwg := lwg_2 107 (by decide +kernel) rfl
theorem se_X6_areTwo : Cond.selects RX6 yX6_areTwo yX6_areTwo ∈ lwg := lwg_2 108 (by decide +kernel) rfl
theorem mo_X6_become : MO mX6_become := ⟨by decide +kernel, rfl, lwg_3 187 rfl rfl, lwg_1 2 (by decide +kernel) rfl, by decide +kernel, by decide +kernel⟩
theorem np_X6_become : npar mX6_become 1 := (by decide +kernel : (parseMethodDescriptor yX6_become.desc).map (fun q => q.parameters.length) = some 1)
theorem im_X6_become : Cond.instanceMethod yX6_become ∈ lwg := lwg_3 185 (by decide +kernel) rfl
theorem se_X6_become : Cond.selects RX6 yX6_become yX6_become ∈ lwg := lwg_3 186 (by decide +kernel) rfl
theorem mo_X6_comingTo : MO mX6_comingTo := ⟨by decide +kernel, rfl, lwg_2 136 rfl rfl, lwg_1 2 (by decide +kernel) rfl, by decide +kernel, by decide +kernel⟩
theorem np_X6_comingTo : npar mX6_comingTo 1 := (by decide +kernel : (parseMethodDescriptor yX6_comingTo.desc).map (fun q => q.parameters.length) = some 1)
theorem im_X6_comingTo : Cond.instanceMethod yX6_comingTo ∈ lwg := lwg_2 134 (by decide +kernel) rfl
theorem se_X6_comingTo : Cond.selects RX6 yX6_comingTo yX6_comingTo ∈ lwg := lwg_2 135 (by decide +kernel) rfl
theorem mo_X6_costOfLines : MO mX6_costOfLines := ⟨by decide +kernel, rfl, lwg_3 148 rfl rfl, lwg_1 2 (by decide +kernel) rfl, by decide +kernel, by decide +kernel⟩
theorem np_X6_costOfLines : npar mX6_costOfLines 2 := (by decide +kernel : (parseMethodDescriptor yX6_costOfLines.desc).map (fun q => q.parameters.length) = some 2)
theorem im_X6_costOfLines : Cond.instanceMethod yX6_costOfLines ∈ lwg := lwg_3 146 (by decide +kernel) rfl
theorem se_X6_costOfLines : Cond.selects RX6 yX6_costOfLines yX6_costOfLines ∈ lwg := lwg_3 147 (by decide +kernel) rfl
theorem mo_X6_costOutside : MO mX6_costOutside := ⟨by decide +kernel, rfl, lwg_3 142 rfl rfl, lwg_1 2 (by decide +kernel) rfl, by decide +kernel, by decide +kernel⟩
theorem np_X6_costOutside : npar mX6_costOutside 2 := (by decide +kernel : (parseMethodDescriptor yX6_costOutside.desc).map (fun q => q.parameters.length) = some 2)
theorem im_X6_costOutside : Cond.instanceMethod yX6_costOutside ∈ lwg := lwg_3 140 (by decide +kernel) rfl
theorem se_X6_costOutside : Cond.selects RX6 yX6_costOutside yX6_costOutside ∈ lwg := lwg_3 141 (by decide +kernel) rfl
theorem mo_X6_dispatch : MO mX6_dispatch := ⟨by decide +kernel, rfl, lwg_2 215 rfl rfl, lwg_1 2 (by decide +kernel) rfl, by decide +kernel, by decide +kernel⟩
theorem np_X6_dispatch : npar mX6_dispatch 2 := (by decide +kernel : (parseMethodDescriptor yX6_dispatch.desc).map (fun q => q.parameters.length) = some 2)
theorem im_X6_dispatch : Cond.instanceMethod yX6_dispatch ∈ lwg := lwg_2 213 (by decide +kernel) rfl
theorem se_X6_dispatch : Cond.selects RX6 yX6_dispatch yX6_dispatch ∈ lwg := lwg_2 214 (by decide +kernel) rfl
theorem mo_X6_follow : MO mX6_follow := ⟨by decide +kernel, rfl, lwg_5 6 rfl rfl, lwg_1 2 (by decide +kernel) rfl, by decide +kernel, by decide +kernel⟩
theorem np_X6_follow : npar mX6_follow 2 := (by decide +kernel : (parseMethodDescriptor yX6_follow.desc).map (fun q => q.parameters.length) = some 2)
theorem im_X6_follow : Cond.instanceMethod yX6_follow ∈ lwg := lwg_5 4 (by decide +kernel) rfl
theorem se_X6_follow : Cond.selects RX6 yX6_follow yX6_follow ∈ lwg := lwg_5 5 (by decide +kernel) rfl
theorem mo_X6_hasLine : MO mX6_hasLine := ⟨by decide +kernel, rfl, lwg_2 148 rfl rfl, lwg_1 2 (by decide +kernel) rfl, by decide +kernel, by decide +kernel⟩
theorem np_X6_hasLine : npar mX6_hasLine 1 := (by decide +kernel : (parseMethodDescriptor yX6_hasLine.desc).map (fun q => q.parameters.length) = some 1)
theorem im_X6_hasLine : Cond.instanceMethod yX6_hasLine ∈ lwg := lwg_2 146 (by decide +kernel) rfl
theorem se_X6_hasLine : Cond.selects RX6 yX6_hasLine yX6_hasLine ∈ lwg := lwg_2 147 (by decide +kernel) rfl
theorem mo_X6_hasStation : MO mX6_hasStation := ⟨by decide +kernel, rfl, lwg_2 113 rfl rfl, lwg_1 2 (by decide +kernel) rfl, by decide +kernel, by decide +kernel⟩
theorem np_X6_hasStation : npar mX6_hasStation 1 := (by decide +kernel : (parseMethodDescriptor yX6_hasStation.desc).map (fun q => q.parameters.length) = some 1)
theorem im_X6_hasStation : Cond.instanceMethod yX6_hasStation ∈ lwg := lwg_2 111 (by decide +kernel) rfl
theorem se_X6_hasStation : Cond.selects RX6 yX6_hasStation yX6_hasStation ∈ lwg := lwg_2 112 (by decide +kernel) rfl
theorem mo_X6_losingStations : MO mX6_losingStations := ⟨by decide +kernel, rfl, lwg_3 12 rfl rfl, lwg_1 2 (by decide +kernel) rfl, by decide +kernel, by decide +kernel⟩
theorem np_X6_losingStations : npar mX6_losingStations 0 := (by decide +kernel : (parseMethodDescriptor yX6_losingStations.desc).map (fun q => q.parameters.length) = some 0)
theorem im_X6_losingStations : Cond.instanceMethod yX6_losingStations ∈ lwg := lwg_3 10 (by decide +kernel) rfl
theorem se_X6_losingStations : Cond.selects RX6 yX6_losingStations yX6_losingStations ∈ lwg := lwg_3 11 (by decide +kernel) rfl
theorem mo_X6_openLines : MO mX6_openLines := ⟨by decide +kernel, rfl, lwg_3 16 rfl rfl, lwg_1 2 (by decide +kernel) rfl, by decide +kernel, by decide +kernel⟩
theorem np_X6_openLines : npar mX6_openLines 0 := (by decide +kernel : (parseMethodDescriptor yX6_openLines.desc).map (fun q => q.parameters.length) = some 0)
theorem im_X6_openLines : Cond.instanceMethod yX6_openLines ∈ lwg := lwg_3 14 (by decide +kernel) rfl
theorem se_X6_openLines : Cond.selects RX6 yX6_openLines yX6_openLines ∈ lwg := lwg_3 15 (by decide +kernel) rfl
theorem mo_X6_passTick : MO mX6_passTick := ⟨by decide +kernel, rfl, lwg_2 227 rfl rfl, lwg_1 2 (by decide +kernel) rfl, by decide +kernel, by decide +kernel⟩
theorem np_X6_passTick : npar mX6_passTick 0 := (by decide +kernel : (parseMethodDescriptor yX6_passTick.desc).map (fun q => q.parameters.length) = some 0)
theorem im_X6_passTick : Cond.instanceMethod yX6_passTick ∈ lwg := lwg_2 225 (by decide +kernel) rfl
theorem se_X6_passTick : Cond.selects RX6 yX6_passTick yX6_passTick ∈ lwg := lwg_2 226 (by decide +kernel) rfl
theorem mo_X6_roomAhead : MO mX6_roomAhead := ⟨by decide +kernel, rfl, lwg_3 64 rfl rfl, lwg_1 2 (by decide +kernel) rfl, by decide +kernel, by decide +kernel⟩
theorem np_X6_roomAhead : npar mX6_roomAhead 3 := (by decide +kernel : (parseMethodDescriptor yX6_roomAhead.desc).map (fun q => q.parameters.length) = some 3)
theorem im_X6_roomAhead : Cond.instanceMethod yX6_roomAhead ∈ lwg := lwg_3 62 (by decide +kernel) rfl
theorem se_X6_roomAhead : Cond.selects RX6 yX6_roomAhead yX6_roomAhead ∈ lwg := lwg_3 63 (by decide +kernel) rfl
theorem mo_X6_supply : MO mX6_supply := ⟨by decide +kernel, rfl, lwg_3 45 rfl rfl, lwg_1 2 (by decide +kernel) rfl, by decide +kernel, by decide +kernel⟩
theorem np_X6_supply : npar mX6_supply 2 := (by decide +kernel : (parseMethodDescriptor yX6_supply.desc).map (fun q => q.parameters.length) = some 2)
theorem im_X6_supply : Cond.instanceMethod yX6_supply ∈ lwg := lwg_3 43 (by decide +kernel) rfl
theorem se_X6_supply : Cond.selects RX6 yX6_supply yX6_supply ∈ lwg := lwg_3 44 (by decide +kernel) rfl
theorem mo_X7_follow : MO mX7_follow := ⟨by decide +kernel, rfl, lwg_5 2 rfl rfl, lwg_1 1 (by decide +kernel) rfl, by decide +kernel, by decide +kernel⟩
theorem np_X7_follow : npar mX7_follow 3 := (by decide +kernel : (parseMethodDescriptor yX7_follow.desc).map (fun q => q.parameters.length) = some 3)
theorem im_X7_follow : Cond.instanceMethod yX7_follow ∈ lwg := lwg_5 1 (by decide +kernel) rfl
theorem se_X7_follow : Cond.selects RX7 yX7_follow yX7_follow ∈ lwg := lwg_0 35 (by decide +kernel) rfl
theorem mo_X7_found : MO mX7_found := ⟨by decide +kernel, rfl, lwg_2 96 rfl rfl, lwg_1 1 (by decide +kernel) rfl, by decide +kernel, by decide +kernel⟩
theorem np_X7_found : npar mX7_found 1 := (by decide +kernel : (parseMethodDescriptor yX7_found.desc).map (fun q => q.parameters.length) = some 1)
theorem im_X7_found : Cond.instanceMethod yX7_found ∈ lwg := lwg_2 95 (by decide +kernel) rfl
theorem se_X7_found : Cond.selects RX7 yX7_found yX7_found ∈ lwg := lwg_0 0 (by decide +kernel) rfl
theorem mo_X7_isAsked : MO mX7_isAsked := ⟨by decide +kernel, rfl, lwg_3 24 rfl rfl, lwg_1 1 (by decide +kernel) rfl, by decide +kernel, by decide +kernel⟩
theorem np_X7_isAsked : npar mX7_isAsked 2 := (by decide +kernel : (parseMethodDescriptor yX7_isAsked.desc).map (fun q => q.parameters.length) = some 2)
theorem im_X7_isAsked : Cond.instanceMethod yX7_isAsked ∈ lwg := lwg_3 23 (by decide +kernel) rfl
theorem se_X7_isAsked : Cond.selects RX7 yX7_isAsked yX7_isAsked ∈ lwg := lwg_0 1 (by decide +kernel) rfl
theorem mo_X7_isIn : MO mX7_isIn := ⟨by decide +kernel, rfl, lwg_2 91 rfl rfl, lwg_1 1 (by decide +kernel) rfl, by decide +kernel, by decide +kernel⟩
theorem np_X7_isIn : npar mX7_isIn 3 := (by decide +kernel : (parseMethodDescriptor yX7_isIn.desc).map (fun q => q.parameters.length) = some 3)
theorem sc_X7_isIn : Cond.static yX7_isIn ∈ lwg := lwg_2 90 (by decide +kernel) rfl
theorem mo_X7_isUnder : MO mX7_isUnder := ⟨by decide +kernel, rfl, lwg_2 200 rfl rfl, lwg_1 1 (by decide +kernel) rfl, by decide +kernel, by decide +kernel⟩
theorem np_X7_isUnder : npar mX7_isUnder 3 := (by decide +kernel : (parseMethodDescriptor yX7_isUnder.desc).map (fun q => q.parameters.length) = some 3)
theorem sc_X7_isUnder : Cond.static yX7_isUnder ∈ lwg := lwg_2 199 (by decide +kernel) rfl
theorem mo_X7_mostHeld : MO mX7_mostHeld := ⟨by decide +kernel, rfl, lwg_3 166 rfl rfl, lwg_1 1 (by decide +kernel) rfl, by decide +kernel, by decide +kernel⟩
theorem np_X7_mostHeld : npar mX7_mostHeld 4 := (by decide +kernel : (parseMethodDescriptor yX7_mostHeld.desc).map (fun q => q.parameters.length) = some 4)
theorem im_X7_mostHeld : Cond.instanceMethod yX7_mostHeld ∈ lwg := lwg_3 165 (by decide +kernel) rfl
theorem se_X7_mostHeld : Cond.selects RX7 yX7_mostHeld yX7_mostHeld ∈ lwg := lwg_0 14 (by decide +kernel) rfl
theorem mo_X7_mostIn : MO mX7_mostIn := ⟨by decide +kernel, rfl, lwg_3 28 rfl rfl, lwg_1 1 (by decide +kernel) rfl, by decide +kernel, by decide +kernel⟩
theorem np_X7_mostIn : npar mX7_mostIn 3 := (by decide +kernel : (parseMethodDescriptor yX7_mostIn.desc).map (fun q => q.parameters.length) = some 3)
theorem im_X7_mostIn : Cond.instanceMethod yX7_mostIn ∈ lwg := lwg_3 27 (by decide +kernel) rfl
theorem se_X7_mostIn : Cond.selects RX7 yX7_mostIn yX7_mostIn ∈ lwg := lwg_0 2 (by decide +kernel) rfl
theorem mo_X7_mostWidened : MO mX7_mostWidened := ⟨by decide +kernel, rfl, lwg_3 183 rfl rfl, lwg_1 1 (by decide +kernel) rfl, by decide +kernel, by decide +kernel⟩
theorem np_X7_mostWidened : npar mX7_mostWidened 3 := (by decide +kernel : (parseMethodDescriptor yX7_mostWidened.desc).map (fun q => q.parameters.length) = some 3)
theorem im_X7_mostWidened : Cond.instanceMethod yX7_mostWidened ∈ lwg := lwg_3 182 (by decide +kernel) rfl
theorem se_X7_mostWidened : Cond.selects RX7 yX7_mostWidened yX7_mostWidened ∈ lwg := lwg_0 15 (by decide +kernel) rfl
theorem mo_X7_planFault : MO mX7_planFault := ⟨by decide +kernel, rfl, lwg_4 238 rfl rfl, lwg_1 1 (by decide +kernel) rfl, by decide +kernel, by decide +kernel⟩
theorem np_X7_planFault : npar mX7_planFault 3 := (by decide +kernel : (parseMethodDescriptor yX7_planFault.desc).map (fun q => q.parameters.length) = some 3)
theorem im_X7_planFault : Cond.instanceMethod yX7_planFault ∈ lwg := lwg_4 237 (by decide +kernel) rfl
theorem se_X7_planFault : Cond.selects RX7 yX7_planFault yX7_planFault ∈ lwg := lwg_0 34 (by decide +kernel) rfl
theorem mo_X7_sheetFault : MO mX7_sheetFault := ⟨by decide +kernel, rfl, lwg_3 133 rfl rfl, lwg_1 1 (by decide +kernel) rfl, by decide +kernel, by decide +kernel⟩
theorem np_X7_sheetFault : npar mX7_sheetFault 1 := (by decide +kernel : (parseMethodDescriptor yX7_sheetFault.desc).map (fun q => q.parameters.length) = some 1)
theorem im_X7_sheetFault : Cond.instanceMethod yX7_sheetFault ∈ lwg := lwg_3 132 (by decide +kernel) rfl
theorem se_X7_sheetFault : Cond.selects RX7 yX7_sheetFault yX7_sheetFault ∈ lwg := lwg_0 13 (by decide +kernel) rfl
theorem mo_X7_ticksUntil : MO mX7_ticksUntil := ⟨by decide +kernel, rfl, lwg_3 102 rfl rfl, lwg_1 1 (by decide +kernel) rfl, by decide +kernel, by decide +kernel⟩
theorem np_X7_ticksUntil : npar mX7_ticksUntil 2 := (by decide +kernel : (parseMethodDescriptor yX7_ticksUntil.desc).map (fun q => q.parameters.length) = some 2)
theorem im_X7_ticksUntil : Cond.instanceMethod yX7_ticksUntil ∈ lwg := lwg_3 101 (by decide +kernel) rfl
theorem se_X7_ticksUntil : Cond.selects RX7 yX7_ticksUntil yX7_ticksUntil ∈ lwg := lwg_0 12 (by decide +kernel) rfl
theorem mo_X8_addLine : MO mX8_addLine := ⟨by decide +kernel, rfl, lwg_5 194 rfl rfl, lwg_1 9 (by decide +kernel) rfl, by decide +kernel, by decide +kernel⟩
theorem np_X8_addLine : npar mX8_addLine 3 := (by decide +kernel : (parseMethodDescriptor yX8_addLine.desc).map (fun q => q.parameters.length) = some 3)
theorem im_X8_addLine : Cond.instanceMethod yX8_addLine ∈ lwg := lwg_5 193 (by decide +kernel) rfl
theorem se_X8_addLine : Cond.selects RX8 yX8_addLine yX8_addLine ∈ lwg := lwg_0 39 (by decide +kernel) rfl
theorem mo_X8_addStation : MO mX8_addStation := ⟨by decide +kernel, rfl, lwg_5 179 rfl rfl, lwg_1 9 (by decide +kernel) rfl, by decide +kernel, by decide +kernel⟩
theorem np_X8_addStation : npar mX8_addStation 3 := (by decide +kernel : (parseMethodDescriptor yX8_addStation.desc).map (fun q => q.parameters.length) = some 3)
theorem im_X8_addStation : Cond.instanceMethod yX8_addStation ∈ lwg := lwg_5 178 (by decide +kernel) rfl
theorem se_X8_addStation : Cond.selects RX8 yX8_addStation yX8_addStation ∈ lwg := lwg_0 37 (by decide +kernel) rfl
theorem mo_X8_allOnWay : MO mX8_allOnWay := ⟨by decide +kernel, rfl, lwg_6 54 rfl rfl, lwg_1 9 (by decide +kernel) rfl, by decide +kernel, by decide +kernel⟩
theorem np_X8_allOnWay : npar mX8_allOnWay 0 := (by decide +kernel : (parseMethodDescriptor yX8_allOnWay.desc).map (fun q => q.parameters.length) = some 0)
theorem im_X8_allOnWay : Cond.instanceMethod yX8_allOnWay ∈ lwg := lwg_6 53 (by decide +kernel) rfl
theorem se_X8_allOnWay : Cond.selects RX8 yX8_allOnWay yX8_allOnWay ∈ lwg := lwg_0 53 (by decide +kernel) rfl
theorem mo_X8_areTwo : MO mX8_areTwo := ⟨by decide +kernel, rfl, lwg_6 180 rfl rfl, lwg_1 9 (by decide +kernel) rfl, by decide +kernel, by decide +kernel⟩
theorem np_X8_areTwo : npar mX8_areTwo 2 := (by decide +kernel : (parseMethodDescriptor yX8_areTwo.desc).map (fun q => q.parameters.length) = some 2)
theorem im_X8_areTwo : Cond.instanceMethod yX8_areTwo ∈ lwg := lwg_6 179 (by decide +kernel) rfl
theorem se_X8_areTwo : Cond.selects RX8 yX8_areTwo yX8_areTwo ∈ lwg := lwg_0 70 (by decide +kernel) rfl
theorem mo_X8_at : MO mX8_at := ⟨by decide +kernel, rfl, lwg_5 211 rfl rfl, lwg_1 9 (by decide +kernel) rfl, by decide +kernel, by decide +kernel⟩
theorem np_X8_at : npar mX8_at 2 := (by decide +kernel : (parseMethodDescriptor yX8_at.desc).map (fun q => q.parameters.length) = some 2)
theorem im_X8_at : Cond.instanceMethod yX8_at ∈ lwg := lwg_5 210 (by decide +kernel) rfl
theorem se_X8_at : Cond.selects RX8 yX8_at yX8_at ∈ lwg := lwg_0 42 (by decide +kernel) rfl
theorem mo_X8_behind : MO mX8_behind := ⟨by decide +kernel, rfl, lwg_6 106 rfl rfl, lwg_1 9 (by decide +kernel) rfl, by decide +kernel, by decide +kernel⟩
theorem np_X8_behind : npar mX8_behind 1 := (by decide +kernel : (parseMethodDescriptor yX8_behind.desc).map (fun q => q.parameters.length) = some 1)
theorem im_X8_behind : Cond.instanceMethod yX8_behind ∈ lwg := lwg_6 105 (by decide +kernel) rfl
theorem se_X8_behind : Cond.selects RX8 yX8_behind yX8_behind ∈ lwg := lwg_0 64 (by decide +kernel) rfl
theorem mo_X8_brings : MO mX8_brings := ⟨by decide +kernel, rfl, lwg_6 90 rfl rfl, lwg_1 9 (by decide +kernel) rfl, by decide +kernel, by decide +kernel⟩
theorem np_X8_brings : npar mX8_brings 2 := (by decide +kernel : (parseMethodDescriptor yX8_brings.desc).map (fun q => q.parameters.length) = some 2)
theorem im_X8_brings : Cond.instanceMethod yX8_brings ∈ lwg := lwg_6 89 (by decide +kernel) rfl
theorem se_X8_brings : Cond.selects RX8 yX8_brings yX8_brings ∈ lwg := lwg_0 60 (by decide +kernel) rfl
theorem mo_X8_byteAt : MO mX8_byteAt := ⟨by decide +kernel, rfl, lwg_6 238 rfl rfl, lwg_1 9 (by decide +kernel) rfl, by decide +kernel, by decide +kernel⟩
theorem np_X8_byteAt : npar mX8_byteAt 1 := (by decide +kernel : (parseMethodDescriptor yX8_byteAt.desc).map (fun q => q.parameters.length) = some 1)
theorem im_X8_byteAt : Cond.instanceMethod yX8_byteAt ∈ lwg := lwg_6 237 (by decide +kernel) rfl
theorem se_X8_byteAt : Cond.selects RX8 yX8_byteAt yX8_byteAt ∈ lwg := lwg_0 77 (by decide +kernel) rfl
theorem mo_X8_canSend : MO mX8_canSend := ⟨by decide +kernel, rfl, lwg_6 28 rfl rfl, lwg_1 9 (by decide +kernel) rfl, by decide +kernel, by decide +kernel⟩
theorem np_X8_canSend : npar mX8_canSend 2 := (by decide +kernel : (parseMethodDescriptor yX8_canSend.desc).map (fun q => q.parameters.length) = some 2)
theorem im_X8_canSend : Cond.instanceMethod yX8_canSend ∈ lwg := lwg_6 27 (by decide +kernel) rfl
theorem se_X8_canSend : Cond.selects RX8 yX8_canSend yX8_canSend ∈ lwg := lwg_0 49 (by decide +kernel) rfl
theorem mo_X8_comesBack : MO mX8_comesBack := ⟨by decide +kernel, rfl, lwg_7 82 rfl rfl, lwg_1 9 (by decide +kernel) rfl, by decide +kernel, by decide +kernel⟩
theorem np_X8_comesBack : npar mX8_comesBack 1 := (by decide +kernel : (parseMethodDescriptor yX8_comesBack.desc).map (fun q => q.parameters.length) = some 1)
theorem im_X8_comesBack : Cond.instanceMethod yX8_comesBack ∈ lwg := lwg_7 81 (by decide +kernel) rfl
theorem se_X8_comesBack : Cond.selects RX8 yX8_comesBack yX8_comesBack ∈ lwg := lwg_0 90 (by decide +kernel) rfl
theorem mo_X8_comesTo : MO mX8_comesTo := ⟨by decide +kernel, rfl, lwg_5 207 rfl rfl, lwg_1 9 (by decide +kernel) rfl, by decide +kernel, by decide +kernel⟩
theorem np_X8_comesTo : npar mX8_comesTo 1 := (by decide +kernel : (parseMethodDescriptor yX8_comesTo.desc).map (fun q => q.parameters.length) = some 1)
theorem im_X8_comesTo : Cond.instanceMethod yX8_comesTo ∈ lwg := lwg_5 206 (by decide +kernel) rfl
theorem se_X8_comesTo : Cond.selects RX8 yX8_comesTo yX8_comesTo ∈ lwg := lwg_0 41 (by decide +kernel) rfl
theorem mo_X8_finds : MO mX8_finds := ⟨by decide +kernel, rfl, lwg_5 174 rfl rfl, lwg_1 9 (by decide +kernel) rfl, by decide +kernel, by decide +kernel⟩
theorem np_X8_finds : npar mX8_finds 1 := (by decide +kernel : (parseMethodDescriptor yX8_finds.desc).map (fun q => q.parameters.length) = some 1)
theorem im_X8_finds : Cond.instanceMethod yX8_finds ∈ lwg := lwg_5 173 (by decide +kernel) rfl
theorem se_X8_finds : Cond.selects RX8 yX8_finds yX8_finds ∈ lwg := lwg_0 36 (by decide +kernel) rfl
theorem mo_X8_findsGains : MO mX8_findsGains := ⟨by decide +kernel, rfl, lwg_6 184 rfl rfl, lwg_1 9 (by decide +kernel) rfl, by decide +kernel, by decide +kernel⟩
theorem np_X8_findsGains : npar mX8_findsGains 2 := (by decide +kernel : (parseMethodDescriptor yX8_findsGains.desc).map (fun q => q.parameters.length) = some 2)
theorem im_X8_findsGains : Cond.instanceMethod yX8_findsGains ∈ lwg := lwg_6 183 (by decide +kernel) rfl
theorem se_X8_findsGains : Cond.selects RX8 yX8_findsGains yX8_findsGains ∈ lwg := lwg_0 71 (by decide +kernel) rfl
theorem mo_X8_gets : MO mX8_gets := ⟨by decide +kernel, rfl, lwg_7 86 rfl rfl, lwg_1 9 (by decide +kernel) rfl, by decide +kernel, by decide +kernel⟩
theorem np_X8_gets : npar mX8_gets 3 := (by decide +kernel : (parseMethodDescriptor yX8_gets.desc).map (fun q => q.parameters.length) = some 3)
theorem im_X8_gets : Cond.instanceMethod yX8_gets ∈ lwg := lwg_7 85 (by decide +kernel) rfl
theorem se_X8_gets : Cond.selects RX8 yX8_gets yX8_gets ∈ lwg := lwg_0 91 (by decide +kernel) rfl
theorem mo_X8_goesBy : MO mX8_goesBy := ⟨by decide +kernel, rfl, lwg_7 74 rfl rfl, lwg_1 9 (by decide +kernel) rfl, by decide +kernel, by decide +kernel⟩
theorem np_X8_goesBy : npar mX8_goesBy 2 := (by decide +kernel : (parseMethodDescriptor yX8_goesBy.desc).map (fun q => q.parameters.length) = some 2)
theorem im_X8_goesBy : Cond.instanceMethod yX8_goesBy ∈ lwg := lwg_7 73 (by decide +kernel) rfl
theorem se_X8_goesBy : Cond.selects RX8 yX8_goesBy yX8_goesBy ∈ lwg := lwg_0 88 (by decide +kernel) rfl
theorem mo_X8_goods : MO mX8_goods := ⟨by decide +kernel, rfl, lwg_6 135 rfl rfl, lwg_1 9 (by decide +kernel) rfl, by decide +kernel, by decide +kernel⟩
theorem np_X8_goods : npar mX8_goods 0 := (by decide +kernel : (parseMethodDescriptor yX8_goods.desc).map (fun q => q.parameters.length) = some 0)
theorem im_X8_goods : Cond.instanceMethod yX8_goods ∈ lwg := lwg_6 134 (by decide +kernel) rfl
theorem se_X8_goods : Cond.selects RX8 yX8_goods yX8_goods ∈ lwg := lwg_0 69 (by decide +kernel) rfl
theorem mo_X8_holds : MO mX8_holds := ⟨by decide +kernel, rfl, lwg_5 203 rfl rfl, lwg_1 9 (by decide +kernel) rfl, by decide +kernel, by decide +kernel⟩
theorem np_X8_holds : npar mX8_holds 2 := (by decide +kernel : (parseMethodDescriptor yX8_holds.desc).map (fun q => q.parameters.length) = some 2)
theorem im_X8_holds : Cond.instanceMethod yX8_holds ∈ lwg := lwg_5 202 (by decide +kernel) rfl
theorem se_X8_holds : Cond.selects RX8 yX8_holds yX8_holds ∈ lwg := lwg_0 40 (by decide +kernel) rfl
theorem mo_X8_in : MO mX8_in := ⟨by decide +kernel, rfl, lwg_5 168 rfl rfl, lwg_1 9 (by decide +kernel) rfl, by decide +kernel, by decide +kernel⟩
theorem np_X8_in : npar mX8_in 3 := (by decide +kernel : (parseMethodDescriptor yX8_in.desc).map (fun q => q.parameters.length) = some 3)
theorem sc_X8_in : Cond.static yX8_in ∈ lwg := lwg_5 167 (by decide +kernel) rfl
theorem mo_X8_isAhead : MO mX8_isAhead := ⟨by decide +kernel, rfl, lwg_6 73 rfl rfl, lwg_1 9 (by decide +kernel) rfl, by decide +kernel, by decide +kernel⟩
theorem np_X8_isAhead : npar mX8_isAhead 1 := (by decide +kernel : (parseMethodDescriptor yX8_isAhead.desc).map (fun q => q.parameters.length) = some 1)
theorem sc_X8_isAhead : Cond.static yX8_isAhead ∈ lwg := lwg_6 72 (by decide +kernel) rfl
theorem mo_X8_isLine : MO mX8_isLine := ⟨by decide +kernel, rfl, lwg_5 223 rfl rfl, lwg_1 9 (by decide +kernel) rfl, by decide +kernel, by decide +kernel⟩
theorem np_X8_isLine : npar mX8_isLine 1 := (by decide +kernel : (parseMethodDescriptor yX8_isLine.desc).map (fun q => q.parameters.length) = some 1)
theorem im_X8_isLine : Cond.instanceMethod yX8_isLine ∈ lwg := lwg_5 222 (by decide +kernel) rfl
theorem se_X8_isLine : Cond.selects RX8 yX8_isLine yX8_isLine ∈ lwg := lwg_0 44 (by decide +kernel) rfl
theorem mo_X8_isSheet : MO mX8_isSheet := ⟨by decide +kernel, rfl, lwg_6 146 rfl rfl, lwg_1 9 (by decide +kernel) rfl, by decide +kernel, by decide +kernel⟩
theorem np_X8_isSheet : npar mX8_isSheet 1 := (by decide +kernel : (parseMethodDescriptor yX8_isSheet.desc).map (fun q => q.parameters.length) = some 1)
theorem sc_X8_isSheet : Cond.static yX8_isSheet ∈ lwg := lwg_6 145 (by decide +kernel) rfl
theorem mo_X8_isStation : MO mX8_isStation := ⟨by decide +kernel, rfl, lwg_5 188 rfl rfl, lwg_1 9 (by decide +kernel) rfl, by decide +kernel, by decide +kernel⟩
theorem np_X8_isStation : npar mX8_isStation 1 := (by decide +kernel : (parseMethodDescriptor yX8_isStation.desc).map (fun q => q.parameters.length) = some 1)
theorem im_X8_isStation : Cond.instanceMethod yX8_isStation ∈ lwg := lwg_5 187 (by decide +kernel) rfl
theorem se_X8_isStation : Cond.selects RX8 yX8_isStation yX8_isStation ∈ lwg := lwg_0 38 (by decide +kernel) rfl
theorem mo_X8_isWord : MO mX8_isWord := ⟨by decide +kernel, rfl, lwg_7 22 rfl rfl, lwg_1 9 (by decide +kernel) rfl, by decide +kernel, by decide +kernel⟩
theorem np_X8_isWord : npar mX8_isWord 1 := (by decide +kernel : (parseMethodDescriptor yX8_isWord.desc).map (fun q => q.parameters.length) = some 1)
theorem im_X8_isWord : Cond.instanceMethod yX8_isWord ∈ lwg := lwg_7 21 (by decide +kernel) rfl
theorem se_X8_isWord : Cond.selects RX8 yX8_isWord yX8_isWord ∈ lwg := lwg_0 82 (by decide +kernel) rfl
theorem mo_X8_isWordFrom : MO mX8_isWordFrom := ⟨by decide +kernel, rfl, lwg_7 6 rfl rfl, lwg_1 9 (by decide +kernel) rfl, by decide +kernel, by decide +kernel⟩
theorem np_X8_isWordFrom : npar mX8_isWordFrom 1 := (by decide +kernel : (parseMethodDescriptor yX8_isWordFrom.desc).map (fun q => q.parameters.length) = some 1)
theorem im_X8_isWordFrom : Cond.instanceMethod yX8_isWordFrom ∈ lwg := lwg_7 5 (by decide +kernel) rfl
theorem se_X8_isWordFrom : Cond.selects RX8 yX8_isWordFrom yX8_isWordFrom ∈ lwg := lwg_0 78 (by decide +kernel) rfl
theorem mo_X8_keeps : MO mX8_keeps := ⟨by decide +kernel, rfl, lwg_7 66 rfl rfl, lwg_1 9 (by decide +kernel) rfl, by decide +kernel, by decide +kernel⟩
theorem np_X8_keeps : npar mX8_keeps 1 := (by decide +kernel : (parseMethodDescriptor yX8_keeps.desc).map (fun q => q.parameters.length) = some 1)
theorem im_X8_keeps : Cond.instanceMethod yX8_keeps ∈ lwg := lwg_7 65 (by decide +kernel) rfl
theorem se_X8_keeps : Cond.selects RX8 yX8_keeps yX8_keeps ∈ lwg := lwg_0 86 (by decide +kernel) rfl
theorem mo_X8_layOut : MO mX8_layOut := ⟨by decide +kernel, rfl, lwg_6 86 rfl rfl, lwg_1 9 (by decide +kernel) rfl, by decide +kernel, by decide +kernel⟩
theorem np_X8_layOut : npar mX8_layOut 4 := (by decide +kernel : (parseMethodDescriptor yX8_layOut.desc).map (fun q => q.parameters.length) = some 4)
theorem im_X8_layOut : Cond.instanceMethod yX8_layOut ∈ lwg := lwg_6 85 (by decide +kernel) rfl
theorem se_X8_layOut : Cond.selects RX8 yX8_layOut yX8_layOut ∈ lwg := lwg_0 59 (by decide +kernel) rfl
theorem mo_X8_leftFor : MO mX8_leftFor := ⟨by decide +kernel, rfl, lwg_6 110 rfl rfl, lwg_1 9 (by decide +kernel) rfl, by decide +kernel, by decide +kernel⟩
theorem np_X8_leftFor : npar mX8_leftFor 2 := (by decide +kernel : (parseMethodDescriptor yX8_leftFor.desc).map (fun q => q.parameters.length) = some 2)
theorem im_X8_leftFor : Cond.instanceMethod yX8_leftFor ∈ lwg := lwg_6 109 (by decide +kernel) rfl
theorem se_X8_leftFor : Cond.selects RX8 yX8_leftFor yX8_leftFor ∈ lwg := lwg_0 65 (by decide +kernel) rfl
theorem mo_X8_losing : MO mX8_losing := ⟨by decide +kernel, rfl, lwg_6 62 rfl rfl, lwg_1 9 (by decide +kernel) rfl, by decide +kernel, by decide +kernel⟩
theorem np_X8_losing : npar mX8_losing 0 := (by decide +kernel : (parseMethodDescriptor yX8_losing.desc).map (fun q => q.parameters.length) = some 0)
theorem im_X8_losing : Cond.instanceMethod yX8_losing ∈ lwg := lwg_6 61 (by decide +kernel) rfl
theorem se_X8_losing : Cond.selects RX8 yX8_losing yX8_losing ∈ lwg := lwg_0 55 (by decide +kernel) rfl
theorem mo_X8_mayBe : MO mX8_mayBe := ⟨by decide +kernel, rfl, lwg_6 9 rfl rfl, lwg_1 9 (by decide +kernel) rfl, by decide +kernel, by decide +kernel⟩
theorem np_X8_mayBe : npar mX8_mayBe 3 := (by decide +kernel : (parseMethodDescriptor yX8_mayBe.desc).map (fun q => q.parameters.length) = some 3)
theorem im_X8_mayBe : Cond.instanceMethod yX8_mayBe ∈ lwg := lwg_6 8 (by decide +kernel) rfl
theorem se_X8_mayBe : Cond.selects RX8 yX8_mayBe yX8_mayBe ∈ lwg := lwg_0 48 (by decide +kernel) rfl
theorem mo_X8_measures : MO mX8_measures := ⟨by decide +kernel, rfl, lwg_6 188 rfl rfl, lwg_1 9 (by decide +kernel) rfl, by decide +kernel, by decide +kernel⟩
theorem np_X8_measures : npar mX8_measures 1 := (by decide +kernel : (parseMethodDescriptor yX8_measures.desc).map (fun q => q.parameters.length) = some 1)
theorem im_X8_measures : Cond.instanceMethod yX8_measures ∈ lwg := lwg_6 187 (by decide +kernel) rfl
theorem se_X8_measures : Cond.selects RX8 yX8_measures yX8_measures ∈ lwg := lwg_0 72 (by decide +kernel) rfl
theorem mo_X8_meets : MO mX8_meets := ⟨by decide +kernel, rfl, lwg_6 98 rfl rfl, lwg_1 9 (by decide +kernel) rfl, by decide +kernel, by decide +kernel⟩
theorem np_X8_meets : npar mX8_meets 2 := (by decide +kernel : (parseMethodDescriptor yX8_meets.desc).map (fun q => q.parameters.length) = some 2)
theorem im_X8_meets : Cond.instanceMethod yX8_meets ∈ lwg := lwg_6 97 (by decide +kernel) rfl
theorem se_X8_meets : Cond.selects RX8 yX8_meets yX8_meets ∈ lwg := lwg_0 62 (by decide +kernel) rfl
theorem mo_X8_mostBy : MO mX8_mostBy := ⟨by decide +kernel, rfl, lwg_6 82 rfl rfl, lwg_1 9 (by decide +kernel) rfl, by decide +kernel, by decide +kernel⟩
theorem np_X8_mostBy : npar mX8_mostBy 6 := (by decide +kernel : (parseMethodDescriptor yX8_mostBy.desc).map (fun q => q.parameters.length) = some 6)
theorem im_X8_mostBy : Cond.instanceMethod yX8_mostBy ∈ lwg := lwg_6 81 (by decide +kernel) rfl
theorem se_X8_mostBy : Cond.selects RX8 yX8_mostBy yX8_mostBy ∈ lwg := lwg_0 58 (by decide +kernel) rfl
theorem mo_X8_mostOf : MO mX8_mostOf := ⟨by decide +kernel, rfl, lwg_6 78 rfl rfl, lwg_1 9 (by decide +kernel) rfl, by decide +kernel, by decide +kernel⟩
theorem np_X8_mostOf : npar mX8_mostOf 2 := (by decide +kernel : (parseMethodDescriptor yX8_mostOf.desc).map (fun q => q.parameters.length) = some 2)
theorem im_X8_mostOf : Cond.instanceMethod yX8_mostOf ∈ lwg := lwg_6 77 (by decide +kernel) rfl
theorem se_X8_mostOf : Cond.selects RX8 yX8_mostOf yX8_mostOf ∈ lwg := lwg_0 57 (by decide +kernel) rfl
theorem mo_X8_moves : MO mX8_moves := ⟨by decide +kernel, rfl, lwg_6 114 rfl rfl, lwg_1 9 (by decide +kernel) rfl, by decide +kernel, by decide +kernel⟩
theorem np_X8_moves : npar mX8_moves 3 := (by decide +kernel : (parseMethodDescriptor yX8_moves.desc).map (fun q => q.parameters.length) = some 3)
theorem im_X8_moves : Cond.instanceMethod yX8_moves ∈ lwg := lwg_6 113 (by decide +kernel) rfl
theorem se_X8_moves : Cond.selects RX8 yX8_moves yX8_moves ∈ lwg := lwg_0 66 (by decide +kernel) rfl
theorem mo_X8_narrow : MO mX8_narrow := ⟨by decide +kernel, rfl, lwg_7 42 rfl rfl, lwg_1 9 (by decide +kernel) rfl, by decide +kernel, by decide +kernel⟩
theorem np_X8_narrow : npar mX8_narrow 2 := (by decide +kernel : (parseMethodDescriptor yX8_narrow.desc).map (fun q => q.parameters.length) = some 2)
theorem sc_X8_narrow : Cond.static yX8_narrow ∈ lwg := lwg_7 41 (by decide +kernel) rfl
theorem mo_X8_nearer : MO mX8_nearer := ⟨by decide +kernel, rfl, lwg_6 193 rfl rfl, lwg_1 9 (by decide +kernel) rfl, by decide +kernel, by decide +kernel⟩
theorem np_X8_nearer : npar mX8_nearer 4 := (by decide +kernel : (parseMethodDescriptor yX8_nearer.desc).map (fun q => q.parameters.length) = some 4)
theorem im_X8_nearer : Cond.instanceMethod yX8_nearer ∈ lwg := lwg_6 192 (by decide +kernel) rfl
theorem se_X8_nearer : Cond.selects RX8 yX8_nearer yX8_nearer ∈ lwg := lwg_0 73 (by decide +kernel) rfl
theorem mo_X8_next : MO mX8_next := ⟨by decide +kernel, rfl, lwg_6 234 rfl rfl, lwg_1 9 (by decide +kernel) rfl, by decide +kernel, by decide +kernel⟩
theorem np_X8_next : npar mX8_next 0 := (by decide +kernel : (parseMethodDescriptor yX8_next.desc).map (fun q => q.parameters.length) = some 0)
theorem im_X8_next : Cond.instanceMethod yX8_next ∈ lwg := lwg_6 233 (by decide +kernel) rfl
theorem se_X8_next : Cond.selects RX8 yX8_next yX8_next ∈ lwg := lwg_0 76 (by decide +kernel) rfl
theorem mo_X8_onWay : MO mX8_onWay := ⟨by decide +kernel, rfl, lwg_5 215 rfl rfl, lwg_1 9 (by decide +kernel) rfl, by decide +kernel, by decide +kernel⟩
theorem np_X8_onWay : npar mX8_onWay 1 := (by decide +kernel : (parseMethodDescriptor yX8_onWay.desc).map (fun q => q.parameters.length) = some 1)
theorem im_X8_onWay : Cond.instanceMethod yX8_onWay ∈ lwg := lwg_5 214 (by decide +kernel) rfl
theorem se_X8_onWay : Cond.selects RX8 yX8_onWay yX8_onWay ∈ lwg := lwg_0 43 (by decide +kernel) rfl
theorem mo_X8_oneTick : MO mX8_oneTick := ⟨by decide +kernel, rfl, lwg_6 42 rfl rfl, lwg_1 9 (by decide +kernel) rfl, by decide +kernel, by decide +kernel⟩
theorem np_X8_oneTick : npar mX8_oneTick 0 := (by decide +kernel : (parseMethodDescriptor yX8_oneTick.desc).map (fun q => q.parameters.length) = some 0)
theorem im_X8_oneTick : Cond.instanceMethod yX8_oneTick ∈ lwg := lwg_6 41 (by decide +kernel) rfl
theorem se_X8_oneTick : Cond.selects RX8 yX8_oneTick yX8_oneTick ∈ lwg := lwg_0 51 (by decide +kernel) rfl
theorem mo_X8_openLines : MO mX8_openLines := ⟨by decide +kernel, rfl, lwg_6 66 rfl rfl, lwg_1 9 (by decide +kernel) rfl, by decide +kernel, by decide +kernel⟩
theorem np_X8_openLines : npar mX8_openLines 0 := (by decide +kernel : (parseMethodDescriptor yX8_openLines.desc).map (fun q => q.parameters.length) = some 0)
theorem im_X8_openLines : Cond.instanceMethod yX8_openLines ∈ lwg := lwg_6 65 (by decide +kernel) rfl
theorem se_X8_openLines : Cond.selects RX8 yX8_openLines yX8_openLines ∈ lwg := lwg_0 56 (by decide +kernel) rfl
theorem mo_X8_ownTill : MO mX8_ownTill := ⟨by decide +kernel, rfl, lwg_6 118 rfl rfl, lwg_1 9 (by decide +kernel) rfl, by decide +kernel, by decide +kernel⟩
theorem np_X8_ownTill : npar mX8_ownTill 2 := (by decide +kernel : (parseMethodDescriptor yX8_ownTill.desc).map (fun q => q.parameters.length) = some 2)
theorem im_X8_ownTill : Cond.instanceMethod yX8_ownTill ∈ lwg := lwg_6 117 (by decide +kernel) rfl
theorem se_X8_ownTill : Cond.selects RX8 yX8_ownTill yX8_ownTill ∈ lwg := lwg_0 67 (by decide +kernel) rfl
theorem mo_X8_perhaps : MO mX8_perhaps := ⟨by decide +kernel, rfl, lwg_7 18 rfl rfl, lwg_1 9 (by decide +kernel) rfl, by decide +kernel, by decide +kernel⟩
theorem np_X8_perhaps : npar mX8_perhaps 4 := (by decide +kernel : (parseMethodDescriptor yX8_perhaps.desc).map (fun q => q.parameters.length) = some 4)
theorem im_X8_perhaps : Cond.instanceMethod yX8_perhaps ∈ lwg := lwg_7 17 (by decide +kernel) rfl
theorem se_X8_perhaps : Cond.selects RX8 yX8_perhaps yX8_perhaps ∈ lwg := lwg_0 81 (by decide +kernel) rfl
theorem mo_X8_plans : MO mX8_plans := ⟨by decide +kernel, rfl, lwg_7 62 rfl rfl, lwg_1 9 (by decide +kernel) rfl, by decide +kernel, by decide +kernel⟩
theorem np_X8_plans : npar mX8_plans 4 := (by decide +kernel : (parseMethodDescriptor yX8_plans.desc).map (fun q => q.parameters.length) = some 4)
theorem im_X8_plans : Cond.instanceMethod yX8_plans ∈ lwg := lwg_7 61 (by decide +kernel) rfl
theorem se_X8_plans : Cond.selects RX8 yX8_plans yX8_plans ∈ lwg := lwg_0 85 (by decide +kernel) rfl
theorem mo_X8_puts : MO mX8_puts := ⟨by decide +kernel, rfl, lwg_7 70 rfl rfl, lwg_1 9 (by decide +kernel) rfl, by decide +kernel, by decide +kernel⟩
theorem np_X8_puts : npar mX8_puts 3 := (by decide +kernel : (parseMethodDescriptor yX8_puts.desc).map (fun q => q.parameters.length) = some 3)
theorem im_X8_puts : Cond.instanceMethod yX8_puts ∈ lwg := lwg_7 69 (by decide +kernel) rfl
theorem se_X8_puts : Cond.selects RX8 yX8_puts yX8_puts ∈ lwg := lwg_0 87 (by decide +kernel) rfl
theorem mo_X8_quickOf : MO mX8_quickOf := ⟨by decide +kernel, rfl, lwg_6 126 rfl rfl, lwg_1 9 (by decide +kernel) rfl, by decide +kernel, by decide +kernel⟩
theorem np_X8_quickOf : npar mX8_quickOf 2 := (by decide +kernel : (parseMethodDescriptor yX8_quickOf.desc).map (fun q => q.parameters.length) = some 2)
theorem im_X8_quickOf : Cond.instanceMethod yX8_quickOf ∈ lwg := lwg_6 125 (by decide +kernel) rfl
theorem se_X8_quickOf : Cond.selects RX8 yX8_quickOf yX8_quickOf ∈ lwg := lwg_0 68 (by decide +kernel) rfl
theorem mo_X8_readsItem : MO mX8_readsItem := ⟨by decide +kernel, rfl, lwg_7 10 rfl rfl, lwg_1 9 (by decide +kernel) rfl, by decide +kernel, by decide +kernel⟩
theorem np_X8_readsItem : npar mX8_readsItem 0 := (by decide +kernel : (parseMethodDescriptor yX8_readsItem.desc).map (fun q => q.parameters.length) = some 0)
theorem im_X8_readsItem : Cond.instanceMethod yX8_readsItem ∈ lwg := lwg_7 9 (by decide +kernel) rfl
theorem se_X8_readsItem : Cond.selects RX8 yX8_readsItem yX8_readsItem ∈ lwg := lwg_0 79 (by decide +kernel) rfl
theorem mo_X8_readsLine : MO mX8_readsLine := ⟨by decide +kernel, rfl, lwg_7 30 rfl rfl, lwg_1 9 (by decide +kernel) rfl, by decide +kernel, by decide +kernel⟩
theorem np_X8_readsLine : npar mX8_readsLine 1 := (by decide +kernel : (parseMethodDescriptor yX8_readsLine.desc).map (fun q => q.parameters.length) = some 1)
theorem im_X8_readsLine : Cond.instanceMethod yX8_readsLine ∈ lwg := lwg_7 29 (by decide +kernel) rfl
theorem se_X8_readsLine : Cond.selects RX8 yX8_readsLine yX8_readsLine ∈ lwg := lwg_0 84 (by decide +kernel) rfl
theorem mo_X8_readsStation : MO mX8_readsStation := ⟨by decide +kernel, rfl, lwg_7 14 rfl rfl, lwg_1 9 (by decide +kernel) rfl, by decide +kernel, by decide +kernel⟩
theorem np_X8_readsStation : npar mX8_readsStation 1 := (by decide +kernel : (parseMethodDescriptor yX8_readsStation.desc).map (fun q => q.parameters.length) = some 1)
theorem im_X8_readsStation : Cond.instanceMethod yX8_readsStation ∈ lwg := lwg_7 13 (by decide +kernel) rfl
theorem se_X8_readsStation : Cond.selects RX8 yX8_readsStation yX8_readsStation ∈ lwg := lwg_0 80 (by decide +kernel) rfl
theorem mo_X8_room : MO mX8_room := ⟨by decide +kernel, rfl, lwg_5 228 rfl rfl, lwg_1 9 (by decide +kernel) rfl, by decide +kernel, by decide +kernel⟩
theorem np_X8_room : npar mX8_room 2 := (by decide +kernel : (parseMethodDescriptor yX8_room.desc).map (fun q => q.parameters.length) = some 2)
theorem im_X8_room : Cond.instanceMethod yX8_room ∈ lwg := lwg_5 227 (by decide +kernel) rfl
theorem se_X8_room : Cond.selects RX8 yX8_room yX8_room ∈ lwg := lwg_0 45 (by decide +kernel) rfl
theorem mo_X8_roomBy : MO mX8_roomBy := ⟨by decide +kernel, rfl, lwg_5 232 rfl rfl, lwg_1 9 (by decide +kernel) rfl, by decide +kernel, by decide +kernel⟩
theorem np_X8_roomBy : npar mX8_roomBy 3 := (by decide +kernel : (parseMethodDescriptor yX8_roomBy.desc).map (fun q => q.parameters.length) = some 3)
theorem im_X8_roomBy : Cond.instanceMethod yX8_roomBy ∈ lwg := lwg_5 231 (by decide +kernel) rfl
theorem se_X8_roomBy : Cond.selects RX8 yX8_roomBy yX8_roomBy ∈ lwg := lwg_0 46 (by decide +kernel) rfl
theorem mo_X8_roomOfAll : MO mX8_roomOfAll := ⟨by decide +kernel, rfl, lwg_6 58 rfl rfl, lwg_1 9 (by decide +kernel) rfl, by decide +kernel, by decide +kernel⟩
theorem np_X8_roomOfAll : npar mX8_roomOfAll 0 := (by decide +kernel : (parseMethodDescriptor yX8_roomOfAll.desc).map (fun q => q.parameters.length) = some 0)
theorem im_X8_roomOfAll : Cond.instanceMethod yX8_roomOfAll ∈ lwg := lwg_6 57 (by decide +kernel) rfl
theorem se_X8_roomOfAll : Cond.selects RX8 yX8_roomOfAll yX8_roomOfAll ∈ lwg := lwg_0 54 (by decide +kernel) rfl
theorem mo_X8_searches : MO mX8_searches := ⟨by decide +kernel, rfl, lwg_6 94 rfl rfl, lwg_1 9 (by decide +kernel) rfl, by decide +kernel, by decide +kernel⟩
theorem np_X8_searches : npar mX8_searches 2 := (by decide +kernel : (parseMethodDescriptor yX8_searches.desc).map (fun q => q.parameters.length) = some 2)
theorem im_X8_searches : Cond.instanceMethod yX8_searches ∈ lwg := lwg_6 93 (by decide +kernel) rfl
theorem se_X8_searches : Cond.selects RX8 yX8_searches yX8_searches ∈ lwg := lwg_0 61 (by decide +kernel) rfl
theorem mo_X8_sends : MO mX8_sends := ⟨by decide +kernel, rfl, lwg_6 33 rfl rfl, lwg_1 9 (by decide +kernel) rfl, by decide +kernel, by decide +kernel⟩
theorem np_X8_sends : npar mX8_sends 2 := (by decide +kernel : (parseMethodDescriptor yX8_sends.desc).map (fun q => q.parameters.length) = some 2)
theorem im_X8_sends : Cond.instanceMethod yX8_sends ∈ lwg := lwg_6 32 (by decide +kernel) rfl
theorem se_X8_sends : Cond.selects RX8 yX8_sends yX8_sends ∈ lwg := lwg_0 50 (by decide +kernel) rfl
theorem mo_X8_sendsAll : MO mX8_sendsAll := ⟨by decide +kernel, rfl, lwg_7 78 rfl rfl, lwg_1 9 (by decide +kernel) rfl, by decide +kernel, by decide +kernel⟩
theorem np_X8_sendsAll : npar mX8_sendsAll 2 := (by decide +kernel : (parseMethodDescriptor yX8_sendsAll.desc).map (fun q => q.parameters.length) = some 2)
theorem im_X8_sendsAll : Cond.instanceMethod yX8_sendsAll ∈ lwg := lwg_7 77 (by decide +kernel) rfl
theorem se_X8_sendsAll : Cond.selects RX8 yX8_sendsAll yX8_sendsAll ∈ lwg := lwg_0 89 (by decide +kernel) rfl
theorem mo_X8_spreads : MO mX8_spreads := ⟨by decide +kernel, rfl, lwg_6 102 rfl rfl, lwg_1 9 (by decide +kernel) rfl, by decide +kernel, by decide +kernel⟩
theorem np_X8_spreads : npar mX8_spreads 3 := (by decide +kernel : (parseMethodDescriptor yX8_spreads.desc).map (fun q => q.parameters.length) = some 3)
theorem im_X8_spreads : Cond.instanceMethod yX8_spreads ∈ lwg := lwg_6 101 (by decide +kernel) rfl
theorem se_X8_spreads : Cond.selects RX8 yX8_spreads yX8_spreads ∈ lwg := lwg_0 63 (by decide +kernel) rfl
theorem mo_X8_steadyBehind : MO mX8_steadyBehind := ⟨by decide +kernel, rfl, lwg_6 201 rfl rfl, lwg_1 9 (by decide +kernel) rfl, by decide +kernel, by decide +kernel⟩
theorem np_X8_steadyBehind : npar mX8_steadyBehind 1 := (by decide +kernel : (parseMethodDescriptor yX8_steadyBehind.desc).map (fun q => q.parameters.length) = some 1)
theorem im_X8_steadyBehind : Cond.instanceMethod yX8_steadyBehind ∈ lwg := lwg_6 200 (by decide +kernel) rfl
theorem se_X8_steadyBehind : Cond.selects RX8 yX8_steadyBehind yX8_steadyBehind ∈ lwg := lwg_0 75 (by decide +kernel) rfl
theorem mo_X8_stepBack : MO mX8_stepBack := ⟨by decide +kernel, rfl, lwg_6 197 rfl rfl, lwg_1 9 (by decide +kernel) rfl, by decide +kernel, by decide +kernel⟩
theorem np_X8_stepBack : npar mX8_stepBack 1 := (by decide +kernel : (parseMethodDescriptor yX8_stepBack.desc).map (fun q => q.parameters.length) = some 1)
theorem im_X8_stepBack : Cond.instanceMethod yX8_stepBack ∈ lwg := lwg_6 196 (by decide +kernel) rfl
theorem se_X8_stepBack : Cond.selects RX8 yX8_stepBack yX8_stepBack ∈ lwg := lwg_0 74 (by decide +kernel) rfl
theorem mo_X8_sumOf : MO mX8_sumOf := ⟨by decide +kernel, rfl, lwg_6 50 rfl rfl, lwg_1 9 (by decide +kernel) rfl, by decide +kernel, by decide +kernel⟩
theorem np_X8_sumOf : npar mX8_sumOf 2 := (by decide +kernel : (parseMethodDescriptor yX8_sumOf.desc).map (fun q => q.parameters.length) = some 2)
theorem im_X8_sumOf : Cond.instanceMethod yX8_sumOf ∈ lwg := lwg_6 49 (by decide +kernel) rfl
theorem se_X8_sumOf : Cond.selects RX8 yX8_sumOf yX8_sumOf ∈ lwg := lwg_0 52 (by decide +kernel) rfl
theorem mo_X8_takes : MO mX8_takes := ⟨by decide +kernel, rfl, lwg_5 236 rfl rfl, lwg_1 9 (by decide +kernel) rfl, by decide +kernel, by decide +kernel⟩
theorem np_X8_takes : npar mX8_takes 1 := (by decide +kernel : (parseMethodDescriptor yX8_takes.desc).map (fun q => q.parameters.length) = some 1)
theorem im_X8_takes : Cond.instanceMethod yX8_takes ∈ lwg := lwg_5 235 (by decide +kernel) rfl
theorem se_X8_takes : Cond.selects RX8 yX8_takes yX8_takes ∈ lwg := lwg_0 47 (by decide +kernel) rfl
theorem mo_X8_takesNumber : MO mX8_takesNumber := ⟨by decide +kernel, rfl, lwg_7 26 rfl rfl, lwg_1 9 (by decide +kernel) rfl, by decide +kernel, by decide +kernel⟩
theorem np_X8_takesNumber : npar mX8_takesNumber 2 := (by decide +kernel : (parseMethodDescriptor yX8_takesNumber.desc).map (fun q => q.parameters.length) = some 2)
theorem im_X8_takesNumber : Cond.instanceMethod yX8_takesNumber ∈ lwg := lwg_7 25 (by decide +kernel) rfl
theorem se_X8_takesNumber : Cond.selects RX8 yX8_takesNumber yX8_takesNumber ∈ lwg := lwg_0 83 (by decide +kernel) rfl
theorem st_max : Cond.static Lib.Math.max.name ∈ lwg := lwg_2 158 (by decide +kernel) rfl
theorem st_min : Cond.static Lib.Math.min.name ∈ lwg := lwg_3 66 (by decide +kernel) rfl
theorem cd_max : Cond.code Lib.Math.max.name Lib.Math.max.code 2 (some .int) ∈ lwg := lwg_2 159 (by decide +kernel) rfl
theorem cd_min : Cond.code Lib.Math.min.name Lib.Math.min.code 2 (some .int) ∈ lwg := lwg_3 67 (by decide +kernel) rfl
theorem in_Math : Cond.initialized "java/lang/Math" ∈ lwg := lwg_1 11 (by decide +kernel) rfl
theorem in_Sys : Cond.initialized "java/lang/System" ∈ lwg := lwg_1 12 (by decide +kernel) rfl
theorem st_cpy : Cond.static arraycopyName ∈ lwg := lwg_3 79 (by decide +kernel) rfl
theorem nv_cpy : Cond.native arraycopyName ∈ lwg := lwg_3 80 (by decide +kernel) rfl
end
section
/-! texts: the JDK's own methods over the sixteen literals -/
theorem str_adr {g : GE} {a : Nat} (ha : 6000 ≤ a ∧ a < 6016) : adr g a = gF g (1000 + (a - 6000)) := by
  unfold adr
  rw [if_neg (by omega), show a - 5000 = 1000 + (a - 6000) by omega]
theorem byt_adr {g : GE} {a : Nat} (ha : 7000 ≤ a ∧ a < 7016) : adr g a = gF g (2000 + (a - 7000)) := by
  unfold adr
  rw [if_neg (by omega), show a - 5000 = 2000 + (a - 7000) by omega]
theorem wm_sval {g : GE} {d : MD} {pc : Nat} {ls : List (Option Value)} {st : List Value} {h : HP} {Q : Option Value → HP → Prop} {i a : Nat} (pc' : Nat) (ha : 6000 ≤ a ∧ a < 6016) (hl : Cond.fieldLink (dO d) i "java/lang/String" "value" "[B" ∈ lwg) (hd : decode (dB d) pc = .ok (.getfield i, 3)) (hp : pc + 3 = pc') (kk : Wm g d pc' ls (.ref (a + 1000) :: st) h Q) : Wm g d pc ls (.ref a :: st) h Q := by
  subst hp
  refine wm_of (fun p e R s m args below meth c cells slots Qf X H locs lsr hR hL hV K => ?_) kk
  have hz := X.2.2.2.2.2.1
  have hS := hR.Fz hL hz
  have hj : a - 6000 < 16 := by omega
  obtain ⟨cf, k, fi, f, cell, h1, h2, h3, h4, h5, h6⟩ := (hz.2.1.2.2.2.2.2.2.2.2.2.1 (a - 6000) hj).2.2.1.kept hS.2.1
  have K1 := K H locs lsr hR hL hV
  have e1 : (Value.ref a :: st).map (cv g) = .ref (gF g (1000 + (a - 6000))) :: st.map (cv g) := by
    show Value.ref (adr g a) :: _ = _
    rw [str_adr ha]
  have e2 : (Value.ref (a + 1000) :: st).map (cv g) = .ref (gF g (2000 + (a - 6000))) :: st.map (cv g) := by
    show Value.ref (adr g (a + 1000)) :: _ = _
    rw [byt_adr (by omega), show a + 1000 - 7000 = a - 6000 by omega]
  rw [e2] at K1
  rw [e1]
  exact W.getf X.1 X.2.1 X.2.2.2.1 (X.2.2.2.2.1 _ hl) h1 h2 h3 h4 h5 rfl rfl hd K1
theorem wm_scod {g : GE} {d : MD} {pc : Nat} {ls : List (Option Value)} {st : List Value} {h : HP} {Q : Option Value → HP → Prop} {i a : Nat} (pc' : Nat) (ha : 6000 ≤ a ∧ a < 6016) (hl : Cond.fieldLink (dO d) i "java/lang/String" "coder" "B" ∈ lwg) (hd : decode (dB d) pc = .ok (.getfield i, 3)) (hp : pc + 3 = pc') (kk : Wm g d pc' ls (.int 0 :: st) h Q) : Wm g d pc ls (.ref a :: st) h Q := by
  subst hp
  refine wm_of (fun p e R s m args below meth c cells slots Qf X H locs lsr hR hL hV K => ?_) kk
  have hz := X.2.2.2.2.2.1
  have hS := hR.Fz hL hz
  have hj : a - 6000 < 16 := by omega
  obtain ⟨cf, k, fi, f, cell, h1, h2, h3, h4, h5, h6⟩ := (hz.2.1.2.2.2.2.2.2.2.2.2.1 (a - 6000) hj).2.1.kept hS.2.1
  have e1 : (Value.ref a :: st).map (cv g) = .ref (gF g (1000 + (a - 6000))) :: st.map (cv g) := by
    show Value.ref (adr g a) :: _ = _
    rw [str_adr ha]
  rw [e1]
  exact W.getf X.1 X.2.1 X.2.2.2.1 (X.2.2.2.2.1 _ hl) h1 h2 h3 h4 h5 rfl rfl hd (K H locs lsr hR hL hV)
theorem wm_blen {g : GE} {d : MD} {pc : Nat} {ls : List (Option Value)} {st : List Value} {h : HP} {Q : Option Value → HP → Prop} {a : Nat} (pc' : Nat) (ha : 7000 ≤ a ∧ a < 7016) (hd : decode (dB d) pc = .ok (.arraylength, 1)) (hp : pc + 1 = pc') (kk : Wm g d pc' ls (.int (nI (leS.getD (a - 7000) 0)) :: st) h Q) : Wm g d pc ls (.ref a :: st) h Q := by
  subst hp
  refine wm_of (fun p e R s m args below meth c cells slots Qf X H locs lsr hR hL hV K => ?_) kk
  have hz := X.2.2.2.2.2.1
  have hS := hR.Fz hL hz
  have hj : a - 7000 < 16 := by omega
  obtain ⟨cell, h1, h2, h3, h4, h5, h6, h7⟩ := (hz.2.1.2.2.2.2.2.2.2.2.2.1 (a - 7000) hj).2.2.2
  have hc : H[gF g (2000 + (a - 7000))]? = some cell := by rw [hS.2.1 _ (Array.getElem?_eq_some_iff.mp h1).1 h7]; exact h1
  have e1 : (Value.ref a :: st).map (cv g) = .ref (gF g (2000 + (a - 7000))) :: st.map (cv g) := by
    show Value.ref (adr g a) :: _ = _
    rw [byt_adr ha]
  rw [e1]
  exact W.alen (n := nI (leS.getD (a - 7000) 0)) X.1 X.2.1 hc h2 h5 rfl rfl hd (K H locs lsr hR hL hV)
theorem wm_bald {g : GE} {d : MD} {pc : Nat} {ls : List (Option Value)} {st : List Value} {h : HP} {Q : Option Value → HP → Prop} {a : Nat} {i : Int32} (pc' : Nat) (ha : 7000 ≤ a ∧ a < 7016) (hd : decode (dB d) pc = .ok (.baload, 1)) (hp : pc + 1 = pc') (hi : vp_in i (leS.getD (a - 7000) 0)) (kk : Wm g d pc' ls (.int ((byS.getD (a - 7000) []).getD (ix i) 0) :: st) h Q) : Wm g d pc ls (.int i :: .ref a :: st) h Q := by
  subst hp
  refine wm_of (fun p e R s m args below meth c cells slots Qf X H locs lsr hR hL hV K => ?_) kk
  have hz := X.2.2.2.2.2.1
  have hS := hR.Fz hL hz
  have hj : a - 7000 < 16 := by omega
  have hlt : i.toNatClampNeg < leS.getD (a - 7000) 0 := vp_in_lt hi
  obtain ⟨cell, h1, h2, h3, h4, h5, h6, h7⟩ := (hz.2.1.2.2.2.2.2.2.2.2.2.1 (a - 7000) hj).2.2.2
  have hc : H[gF g (2000 + (a - 7000))]? = some cell := by rw [hS.2.1 _ (Array.getElem?_eq_some_iff.mp h1).1 h7]; exact h1
  have e1 : (Value.int i :: Value.ref a :: st).map (cv g) = .int i :: .ref (gF g (2000 + (a - 7000))) :: st.map (cv g) := by
    show _ :: Value.ref (adr g a) :: _ = _
    rw [byt_adr ha]
    rfl
  rw [e1]
  exact W.bald X.1 X.2.1 hc h2 h3 (fun q => q.elim (fun q => hi (Or.inl q)) (fun q => by omega)) (h6 _ hlt) rfl rfl hd (K H locs lsr hR hL hV)
theorem wm_cmp {g : GE} {d : MD} {pc : Nat} {ls : List (Option Value)} {st : List Value} {h : HP} {Q : Option Value → HP → Prop} {i : Nat} (pc' : Nat) (hl : Cond.fieldLink (dO d) i "java/lang/String" "COMPACT_STRINGS" "Z" ∈ lwg) (hd : decode (dB d) pc = .ok (.getstatic i, 3)) (hp : pc + 3 = pc') (kk : Wm g d pc' ls (.int 1 :: st) h Q) : Wm g d pc ls st h Q := by
  subst hp
  refine wm_of (fun p e R s m args below meth c cells slots Qf X H locs lsr hR hL hV K => ?_) kk
  have hz := X.2.2.2.2.2.1
  have hS := hR.Fz hL hz
  obtain ⟨cf, kf, fi, f, a, cell, h1, h2, h3, h4, h5, h6, h7, h8⟩ := hz.2.1.2.2.2.2.2.2.2.1
  exact W.gets X.1 X.2.1 X.2.2.2.1 (X.2.2.2.2.1 _ hl) h1 h2 h3 h4 (by rw [hS.2.1 a (Array.getElem?_eq_some_iff.mp h5).1 h8]; exact h5) (fun e => by rw [e] at h6; cases h6) h7 rfl hd (K H locs lsr hR hL hV)
theorem wm_fmt {g : GE} {d : MD} {pc : Nat} {ls : List (Option Value)} {st : List Value} {h : HP} {Q : Option Value → HP → Prop} {i : Nat} (pc' : Nat) (hl : Cond.fieldLink (dO d) i "jdk/internal/util/Preconditions" "SIOOBE_FORMATTER" "Ljava/util/function/BiFunction;" ∈ lwg) (hd : decode (dB d) pc = .ok (.getstatic i, 3)) (hp : pc + 3 = pc') (kk : ∀ v : Value, v = .null ∨ v = .ref 5003 → Wm g d pc' ls (v :: st) h Q) : Wm g d pc ls st h Q := by
  subst hp
  intro p e R s m args below meth c cells slots Qf X RET H locs lsr hR hL hV
  have hz := X.2.2.2.2.2.1
  have hS := hR.Fz hL hz
  rcases hz.2.1.2.2.2.2.2.2.2.2.1 with hq | hq
  · obtain ⟨cf, kf, fi, f, a, cell, h1, h2, h3, h4, h5, h6, h7, h8⟩ := hq
    exact W.gets X.1 X.2.1 X.2.2.2.1 (X.2.2.2.2.1 _ hl) h1 h2 h3 h4 (by rw [hS.2.1 a (Array.getElem?_eq_some_iff.mp h5).1 h8]; exact h5) (fun e => by rw [e] at h6; cases h6) h7 rfl hd (kk .null (Or.inl rfl) p e R s m args below meth c cells slots Qf X RET H locs lsr hR hL hV)
  · obtain ⟨cf, kf, fi, f, a, cell, h1, h2, h3, h4, h5, h6, h7, h8⟩ := hq
    exact W.gets X.1 X.2.1 X.2.2.2.1 (X.2.2.2.2.1 _ hl) h1 h2 h3 h4 (by rw [hS.2.1 a (Array.getElem?_eq_some_iff.mp h5).1 h8]; exact h5) (fun e => by rw [e] at h6; cases h6) h7 rfl hd (kk (.ref 5003) (Or.inr rfl) p e R s m args below meth c cells slots Qf X RET H locs lsr hR hL hV)
theorem wm_i2c {g : GE} {d : MD} {pc : Nat} {ls : List (Option Value)} {st : List Value} {h : HP} {Q : Option Value → HP → Prop} {x : Int32} (pc' : Nat) (hd : decode (dB d) pc = .ok (.i2c, 1)) (hp : pc + 1 = pc') (k : Wm g d pc' ls (.int (x.toUInt32 % 65536).toInt32 :: st) h Q) : Wm g d pc ls (.int x :: st) h Q := by
  subst hp
  exact wm_of (fun p e R s m args below meth c cells slots Qf X H locs lsr hR hL hV K => lv_i2c X.1 X.2.1 hd rfl (K H locs lsr hR hL hV)) k
/-- a text's own method is called -/
theorem wm_callT {g : GE} {d : MD} {pc : Nat} {ls : List (Option Value)} {h : HP} {Q : Option Value → HP → Prop} (d2 : MD) {i b : Nat} (n : Nat) (As rest st : List Value) (Q1 : Int32 → HP → Prop) (pc' : Nat) (hm : MO d2) (hp2 : npar d2 n) (hl : Cond.methodLink (dO d) i (dY d2) ∈ lwg) (hi : Cond.instanceMethod (dY d2) ∈ lwg) (hs : Cond.selects (dO d2) (dY d2) (dY d2) ∈ lwg) (hroom : dF d2 + 1 ≤ dF d ∧ 8 + (dN d2 + 11) + dW d2 ≤ dW d)
    (hd : decode (dB d) pc = .ok (.invokevirtual i, 3)) (hp : pc + 3 = pc') (hst : As.reverse ++ .ref b :: rest = st) (hn : As.length = n) (hrest : (rest.map fun v => v.category).sum ≤ 8) (hb : 6000 ≤ b ∧ b < 6016) (hci : dO d2 = "java/lang/String")
    (he : (lg_sl (.ref b :: As)).length ≤ dN d2) (ls2 : List (Option Value)) (he2 : ∀ (i : Nat) (v : Value), ls2[i]? = some (some v) → (ent (.ref b :: As))[i]? = some (some v)) (k1 : Wm g d2 0 ls2 [] h (qi Q1))
    (k2 : ∀ (v : Int32) (h' : HP), Q1 v h' → RV d2 (some (.int v)) → Wm g d pc' ls (.int v :: rest) h' Q) : Wm g d pc ls st h Q := by
  subst hp
  subst hst
  intro p e R s m args below meth c cells slots Qf X RET H locs lsr hR hL hV
  have hM := met_of hm he he2 k1
  obtain ⟨hx, hb2, hml, hown, hts, hz, hF, hW2, hcl, hsl⟩ := id X
  have hS := hR.Fz hL hz
  have e1 : (Value.ref b :: rest).map (cv g) = .ref (gF g (1000 + (b - 6000))) :: rest.map (cv g) := by
    show Value.ref (adr g b) :: _ = _
    rw [str_adr hb]
  rw [List.map_append, List.map_reverse, e1]
  have hG : ∀ w ∈ wsM d2, w ∈ lwg := fun w hw => by
    rcases List.mem_cons.mp hw with rfl | hw
    · exact hm.2.2.1
    · exact hw
  have cw := cwV (own := dO d) (index := i) (C := dO d2) (y := dY d2) (R := R) (ws := wsM d2) (bytes := dB d2) (maxL := dN d2) (ret := dR d2) (rm := rmM d2) (mc := 0) (ms := 0) n hts (lwg_good (fun w hw => by
    simp only [wsV, List.mem_append, List.mem_cons, List.not_mem_nil, or_false] at hw
    rcases hw with (rfl | rfl | rfl | rfl) | hw
    · exact hl
    · exact hi
    · exact hs
    · rw [hm.2.1]; exact hm.2.2.2.1
    · exact hG w (List.mem_cons.mpr hw))) rfl rfl rfl ⟨hm.2.1.symm, hm.2.2.2.2.1, hm.2.2.2.2.2, hp2⟩ ⟨Nat.le_trans hroom.1 hF, Nat.le_trans hroom.2 hW2⟩
  have hrc : ∃ cell : Cell, H[gF g (1000 + (b - 6000))]? = some cell ∧ cell.vm.isStatics = false ∧ s.vm.findClass (dO d2) = some cell.cls := by
    obtain ⟨cell, h1, h2, h3, -⟩ := (hz.2.1.2.2.2.2.2.2.2.2.2.1 (b - 6000) (by omega)).1.kept hS.2.1
    exact ⟨cell, h1, h2, by rw [hci]; exact h3⟩
  have run := va_runV (l := gL g) (e := e) (below := below) (meth := meth) (locs := locs) (cells := cells) (slots := slots) (b := gF g (1000 + (b - 6000))) (As := As.map (cv g)) (rest := rest.map (cv g)) (g := F0 m pc lsr ((As.map (cv g)).reverse ++ .ref (gF g (1000 + (b - 6000))) :: rest.map (cv g))) (cc := dB d) (nL := dN d) (H := H) ⟨hx, hb2, hml, hown, hts⟩ hM cw ⟨pcM_blind, hrc, fun U hU hW => ⟨by rw [List.map_cons]; show _ = (Value.ref (adr g b) :: _).toArray; rw [str_adr hb], by rw [hU]; exact hR, hz.warm hW⟩⟩ rfl (by rw [List.length_map]; exact hn) hV.1 rfl (rest_ok hrest) hd ⟨by omega, by omega⟩
  exact run_go run hL (fun r h' H1 locs1 q1 q2 q3 q4 => by
    obtain ⟨v, rfl, q1⟩ := q1
    exact k2 v h' q1 q2 p e R s m args below meth c cells slots Qf X RET H1 locs1 lsr q3 q4 hV)
theorem nar_b0 : narrow .byte (.int 0) = .int 0 := by decide +kernel
theorem l_coder (g : GE) (a0 : Nat) (ha : 6000 ≤ a0 ∧ a0 < 6016) (h : HP) (Q : Int32 → HP → Prop) (H : Q 0 h) : Wm g mJ0_coder_7d493 0 [some (.ref a0)] [] h (qi Q) := by
  refine wm_cmp (i := 38) 3 (lwg_4 98 (by decide +kernel) rfl) (by decide +kernel) rfl ?_
  refine wm_if_eq 6 13 (by decide +kernel : decode cJ0_coder_7d493 3 = .ok (.ifCond .eq 10, 3)) (by decide) rfl (fun c => absurd c (by decide +kernel)) (fun _ => ?_)
  refine wm_aload_n 0 7 (by decide +kernel) rfl rfl ?_
  refine wm_scod (i := 15) 10 ha (lwg_7 114 (by decide +kernel) rfl) (by decide +kernel) rfl ?_
  refine wm_goto 14 (by decide +kernel : decode cJ0_coder_7d493 10 = .ok (.goto 4, 3)) (by decide) ?_
  exact wm_iret (by decide +kernel) ⟨.byte, rfl, nar_b0⟩ H
theorem l_isLatin1 (g : GE) (a0 : Nat) (ha : 6000 ≤ a0 ∧ a0 < 6016) (h : HP) (Q : Int32 → HP → Prop) (H : Q 1 h) : Wm g mJ0_isLatin1_aae02 0 [some (.ref a0)] [] h (qi Q) := by
  refine wm_cmp (i := 38) 3 (lwg_4 98 (by decide +kernel) rfl) (by decide +kernel) rfl ?_
  refine wm_if_eq 6 17 (by decide +kernel : decode cJ0_isLatin1_aae02 3 = .ok (.ifCond .eq 14, 3)) (by decide) rfl (fun c => absurd c (by decide +kernel)) (fun _ => ?_)
  refine wm_aload_n 0 7 (by decide +kernel) rfl rfl ?_
  refine wm_scod (i := 15) 10 ha (lwg_7 114 (by decide +kernel) rfl) (by decide +kernel) rfl ?_
  refine wm_if_ne 13 17 (by decide +kernel : decode cJ0_isLatin1_aae02 10 = .ok (.ifCond .ne 7, 3)) (by decide) rfl (fun c => absurd rfl c) (fun _ => ?_)
  refine wm_iconst 1 14 (by decide +kernel : decode cJ0_isLatin1_aae02 13 = .ok (.iconst 1, 1)) rfl (by decide +kernel) ?_
  refine wm_goto 18 (by decide +kernel : decode cJ0_isLatin1_aae02 14 = .ok (.goto 4, 3)) (by decide) ?_
  exact wm_iret (by decide +kernel) ⟨.boolean, rfl, by decide +kernel⟩ H
theorem l_slength (g : GE) (a0 : Nat) (ha : 6000 ≤ a0 ∧ a0 < 6016) (h : HP) (Q : Int32 → HP → Prop) (H : Q (nI (leS.getD (a0 - 6000) 0)) h) : Wm g mJ0_length_8abf5 0 [some (.ref a0)] [] h (qi Q) := by
  refine wm_aload_n 0 1 (by decide +kernel) rfl rfl ?_
  refine wm_sval (i := 9) 4 ha (lwg_7 113 (by decide +kernel) rfl) (by decide +kernel) rfl ?_
  refine wm_blen 5 (by omega) (by decide +kernel) rfl ?_
  rw [show a0 + 1000 - 7000 = a0 - 6000 by omega]
  refine wm_aload_n 0 6 (by decide +kernel) rfl rfl ?_
  refine wm_callT mJ0_coder_7d493 0 [] [_] _ _ 9 mo_J0_coder_7d493 np_J0_coder_7d493 ml_RJ0_335 im_J0_coder_7d493 se_J0_coder_7d493 (by decide +kernel) (by decide +kernel) rfl rfl rfl (Nat.le_of_ble_eq_true rfl) ha rfl (Nat.le_of_ble_eq_true rfl) _ (ent_pad 0 rfl) (l_coder g a0 ha h (fun v h1 => v = 0 ∧ h1 = h) ⟨rfl, rfl⟩) (fun v h1 hq _ => ?_)
  obtain ⟨rfl, rfl⟩ := hq
  refine wm_ishr 10 (by decide +kernel) rfl ?_
  rw [sb_shr0]
  exact wm_iret (by decide +kernel) ⟨.int, rfl, rfl⟩ H
theorem l_pcheck (g : GE) (x0 x1 : Int32) (a2 : Value) (hi : ¬ x0 < 0 ∧ x0 < x1) (h : HP) (Q : Int32 → HP → Prop) (H : Q x0 h) : Wm g mJ3_checkIndex_8e157 0 [some (.int x0), some (.int x1), some a2] [] h (qi Q) := by
  refine wm_iload_n 0 1 (by decide +kernel) rfl rfl ?_
  refine wm_if_lt 4 9 (by decide +kernel : decode cJ3_checkIndex_8e157 1 = .ok (.ifCond .lt 8, 3)) (by decide) rfl (fun c => absurd c hi.1) (fun _ => ?_)
  refine wm_iload_n 0 5 (by decide +kernel) rfl rfl ?_
  refine wm_iload_n 1 6 (by decide +kernel) rfl rfl ?_
  refine wm_icmp_lt 9 16 (by decide +kernel : decode cJ3_checkIndex_8e157 6 = .ok (.if_icmp .lt 10, 3)) (by decide) rfl (fun _ => ?_) (fun c => absurd hi.2 c)
  refine wm_iload_n 0 17 (by decide +kernel) rfl rfl ?_
  exact wm_iret (by decide +kernel) ⟨.int, rfl, rfl⟩ H
theorem l_scheck (g : GE) (x0 x1 : Int32) (hi : ¬ x0 < 0 ∧ x0 < x1) (h : HP) (Q : HP → Prop) (H : Q h) : Wm g mJ0_checkIndex_df160 0 [some (.int x0), some (.int x1)] [] h (qv Q) := by
  refine wm_iload_n 0 1 (by decide +kernel) rfl rfl ?_
  refine wm_iload_n 1 2 (by decide +kernel) rfl rfl ?_
  refine wm_fmt (i := 1053) 5 (lwg_4 114 (by decide +kernel) rfl) (by decide +kernel) rfl (fun v hv => ?_)
  have hc : v.category = 1 := by rcases hv with rfl | rfl <;> rfl
  refine wm_callSi mJ3_checkIndex_8e157 3 [_, _, _] [] _ _ 8 mo_J3_checkIndex_8e157 np_J3_checkIndex_8e157 ml_RJ0_1059 sc_J3_checkIndex_8e157 (by decide +kernel) (by decide +kernel) rfl rfl rfl (Nat.le_of_ble_eq_true rfl) (by rcases hv with rfl | rfl <;> exact Nat.le_of_ble_eq_true rfl) _ (ent_pad 0 (by rcases hv with rfl | rfl <;> rfl)) (l_pcheck g x0 x1 v hi h (fun _ h1 => h1 = h) rfl) (fun r h1 hq _ => ?_)
  subst hq
  refine wm_pop 9 (by decide +kernel) rfl rfl ?_
  exact wm_vret (by decide +kernel) rfl H
theorem byS_ok : ∀ i, i < 16 → ∀ k, k < leS.getD i 0 → (((byS.getD i []).getD k 0 &&& 255).toUInt32 % 65536).toInt32 = (byS.getD i []).getD k 0 ∧ narrow .char (.int ((byS.getD i []).getD k 0)) = .int ((byS.getD i []).getD k 0) := by decide +kernel
theorem leS_lt : ∀ i, i < 16 → leS.getD i 0 < 100 := by decide +kernel
theorem l_lchar (g : GE) (a0 : Nat) (x1 : Int32) (ha : 7000 ≤ a0 ∧ a0 < 7016) (hi : vp_in x1 (leS.getD (a0 - 7000) 0)) (h : HP) (Q : Int32 → HP → Prop) (H : Q ((byS.getD (a0 - 7000) []).getD (ix x1) 0) h) : Wm g mJ1_charAt_3b067 0 [some (.ref a0), some (.int x1)] [] h (qi Q) := by
  refine wm_iload_n 1 1 (by decide +kernel) rfl rfl ?_
  refine wm_aload_n 0 2 (by decide +kernel) rfl rfl ?_
  refine wm_blen 3 ha (by decide +kernel) rfl ?_
  have hl := leS_lt (a0 - 7000) (by omega)
  have hi2 : ¬ x1 < 0 ∧ x1 < nI (leS.getD (a0 - 7000) 0) := by
    obtain ⟨j, hj, rfl⟩ := vp_in_of hi (by omega)
    exact ⟨nI_pos (by omega), nI_lt hj (by omega)⟩
  refine wm_callSv mJ0_checkIndex_df160 2 [_, _] [] _ _ 6 mo_J0_checkIndex_df160 np_J0_checkIndex_df160 ml_RJ1_9 sc_J0_checkIndex_df160 (by decide +kernel) (by decide +kernel) rfl rfl rfl (Nat.le_of_ble_eq_true rfl) (Nat.le_of_ble_eq_true rfl) _ (ent_pad 0 rfl) (l_scheck g x1 _ hi2 h (fun h1 => h1 = h) rfl) (fun h1 hq => ?_)
  subst hq
  refine wm_aload_n 0 7 (by decide +kernel) rfl rfl ?_
  refine wm_iload_n 1 8 (by decide +kernel) rfl rfl ?_
  refine wm_bald 9 ha (by decide +kernel) rfl hi ?_
  refine wm_sipush 255 12 (by decide +kernel : decode cJ1_charAt_3b067 9 = .ok (.sipush 255, 3)) rfl (by decide +kernel) ?_
  refine wm_iand 13 (by decide +kernel) rfl ?_
  refine wm_i2c 14 (by decide +kernel) rfl ?_
  have hk := byS_ok (a0 - 7000) (by omega) (ix x1) (vp_in_lt hi)
  rw [hk.1]
  exact wm_iret (by decide +kernel) ⟨.char, rfl, hk.2⟩ H
theorem l_scharAt (g : GE) (a0 : Nat) (x1 : Int32) (ha : 6000 ≤ a0 ∧ a0 < 6016) (hi : vp_in x1 (leS.getD (a0 - 6000) 0)) (h : HP) (Q : Int32 → HP → Prop) (H : Q ((byS.getD (a0 - 6000) []).getD (ix x1) 0) h) : Wm g mJ0_charAt_5068e 0 [some (.ref a0), some (.int x1)] [] h (qi Q) := by
  refine wm_aload_n 0 1 (by decide +kernel) rfl rfl ?_
  refine wm_callT mJ0_isLatin1_aae02 0 [] [] _ _ 4 mo_J0_isLatin1_aae02 np_J0_isLatin1_aae02 ml_RJ0_492 im_J0_isLatin1_aae02 se_J0_isLatin1_aae02 (by decide +kernel) (by decide +kernel) rfl rfl rfl (Nat.le_of_ble_eq_true rfl) ha rfl (Nat.le_of_ble_eq_true rfl) _ (ent_pad 0 rfl) (l_isLatin1 g a0 ha h (fun v h1 => v = 1 ∧ h1 = h) ⟨rfl, rfl⟩) (fun v h1 hq _ => ?_)
  obtain ⟨rfl, rfl⟩ := hq
  refine wm_if_eq 7 16 (by decide +kernel : decode cJ0_charAt_5068e 4 = .ok (.ifCond .eq 12, 3)) (by decide) rfl (fun c => absurd c (by decide +kernel)) (fun _ => ?_)
  refine wm_aload_n 0 8 (by decide +kernel) rfl rfl ?_
  refine wm_sval (i := 9) 11 ha (lwg_7 113 (by decide +kernel) rfl) (by decide +kernel) rfl ?_
  refine wm_iload_n 1 12 (by decide +kernel) rfl rfl ?_
  have e : a0 + 1000 - 7000 = a0 - 6000 := by omega
  refine wm_callSi mJ1_charAt_3b067 2 [_, _] [] _ _ 15 mo_J1_charAt_3b067 np_J1_charAt_3b067 ml_RJ0_495 sc_J1_charAt_3b067 (by decide +kernel) (by decide +kernel) rfl rfl rfl (Nat.le_of_ble_eq_true rfl) (Nat.le_of_ble_eq_true rfl) _ (ent_pad 0 rfl) (l_lchar g (a0 + 1000) x1 (by omega) (by rw [e]; exact hi) h1 (fun v h2 => v = (byS.getD (a0 - 6000) []).getD (ix x1) 0 ∧ h2 = h1) ⟨by rw [e], rfl⟩) (fun v h2 hq hz => ?_)
  obtain ⟨e1, e2⟩ := hq
  subst e2
  rw [← e1] at H
  obtain ⟨ty, t1, t2⟩ := hz
  cases t1
  exact wm_iret (by decide +kernel) ⟨.char, rfl, t2⟩ H
/-- String.length and String.charAt, called -/
theorem wm_strlen {g : GE} {d : MD} {pc : Nat} {ls : List (Option Value)} {st : List Value} {h : HP} {Q : Option Value → HP → Prop} {i a : Nat} (pc' : Nat) (hl : Cond.methodLink (dO d) i yJ0_length_8abf5 ∈ lwg) (hroom : 5 ≤ dF d ∧ 140 ≤ dW d) (hrest : (st.map fun v => v.category).sum ≤ 8) (hd : decode (dB d) pc = .ok (.invokevirtual i, 3)) (hp : pc + 3 = pc') (ha : 6000 ≤ a ∧ a < 6016) (kk : Wm g d pc' ls (.int (nI (leS.getD (a - 6000) 0)) :: st) h Q) : Wm g d pc ls (.ref a :: st) h Q := by
  have hF : dF mJ0_length_8abf5 = 1 ∧ dW mJ0_length_8abf5 = 20 ∧ dN mJ0_length_8abf5 = 1 := ⟨rfl, rfl, rfl⟩
  refine wm_callT mJ0_length_8abf5 0 [] st _ _ pc' mo_J0_length_8abf5 np_J0_length_8abf5 hl im_J0_length_8abf5 se_J0_length_8abf5 ⟨by omega, by omega⟩ hd hp rfl rfl hrest ha rfl (Nat.le_of_ble_eq_true rfl) _ (ent_pad 0 rfl) (l_slength g a ha h (fun v h1 => v = nI (leS.getD (a - 6000) 0) ∧ h1 = h) ⟨rfl, rfl⟩) (fun v h1 hq _ => ?_)
  obtain ⟨rfl, rfl⟩ := hq
  exact kk
theorem wm_charat {g : GE} {d : MD} {pc : Nat} {ls : List (Option Value)} {st : List Value} {h : HP} {Q : Option Value → HP → Prop} {i a : Nat} {x : Int32} (pc' : Nat) (hl : Cond.methodLink (dO d) i yJ0_charAt_5068e ∈ lwg) (hroom : 5 ≤ dF d ∧ 140 ≤ dW d) (hrest : (st.map fun v => v.category).sum ≤ 8) (hd : decode (dB d) pc = .ok (.invokevirtual i, 3)) (hp : pc + 3 = pc') (ha : 6000 ≤ a ∧ a < 6016) (hi : vp_in x (leS.getD (a - 6000) 0)) (kk : Wm g d pc' ls (.int ((byS.getD (a - 6000) []).getD (ix x) 0) :: st) h Q) : Wm g d pc ls (.int x :: .ref a :: st) h Q := by
  have hF : dF mJ0_charAt_5068e = 3 ∧ dW mJ0_charAt_5068e = 64 ∧ dN mJ0_charAt_5068e = 2 := ⟨rfl, rfl, rfl⟩
  refine wm_callT mJ0_charAt_5068e 1 [.int x] st _ _ pc' mo_J0_charAt_5068e np_J0_charAt_5068e hl im_J0_charAt_5068e se_J0_charAt_5068e ⟨by omega, by omega⟩ hd hp rfl rfl hrest ha rfl (Nat.le_of_ble_eq_true rfl) _ (ent_pad 0 rfl) (l_scharAt g a x ha hi h (fun v h1 => v = (byS.getD (a - 6000) []).getD (ix x) 0 ∧ h1 = h) ⟨rfl, rfl⟩) (fun v h1 hq _ => ?_)
  obtain ⟨e1, e2⟩ := hq
  subst e2
  rw [e1]
  exact kk
end
