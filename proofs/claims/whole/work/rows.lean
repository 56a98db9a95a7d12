section
-- ===== PART A: goes FIRST, ahead of the names: the tables' words, and 'selects' of the private methods out of them =====
/-- a private method of a class that the tables say can be made, by its rows of tables_1 -/
def lw_okq (q : MethodName × Nat) : Prop := (q.1.cls ≠ "java/lang/invoke/MethodHandle" ∧ q.1.cls ≠ "java/lang/invoke/VarHandle") ∧ Cond.instantiable q.1.cls q.2 ∈ tables_1 ∧ Cond.privateMethod q.1 ∈ tables_1 ∧ Cond.instanceMethod q.1 ∈ tables_1
theorem lw_p0 : lw_okq (⟨"GoodsUnderWay", "found", "(I)I"⟩, 9) := ⟨⟨by decide +kernel, by decide +kernel⟩, List.mem_of_getElem? (i := 18) (by decide +kernel), List.mem_of_getElem? (i := 334) (by decide +kernel), List.mem_of_getElem? (i := 335) (by decide +kernel)⟩
theorem lw_p1 : lw_okq (⟨"GoodsUnderWay", "isAsked", "(II)Z"⟩, 9) := ⟨⟨by decide +kernel, by decide +kernel⟩, List.mem_of_getElem? (i := 18) (by decide +kernel), List.mem_of_getElem? (i := 502) (by decide +kernel), List.mem_of_getElem? (i := 503) (by decide +kernel)⟩
theorem lw_p2 : lw_okq (⟨"GoodsUnderWay", "mostIn", "(LGoodsUnderWay$World;II)I"⟩, 9) := ⟨⟨by decide +kernel, by decide +kernel⟩, List.mem_of_getElem? (i := 18) (by decide +kernel), List.mem_of_getElem? (i := 506) (by decide +kernel), List.mem_of_getElem? (i := 507) (by decide +kernel)⟩
theorem lw_p3 : lw_okq (⟨"GoodsUnderWay$Network", "addTick", "(I)V"⟩, 17) := ⟨⟨by decide +kernel, by decide +kernel⟩, List.mem_of_getElem? (i := 157) (by decide +kernel), List.mem_of_getElem? (i := 519) (by decide +kernel), List.mem_of_getElem? (i := 520) (by decide +kernel)⟩
theorem lw_p4 : lw_okq (⟨"GoodsUnderWay$Network", "node", "(II)I"⟩, 17) := ⟨⟨by decide +kernel, by decide +kernel⟩, List.mem_of_getElem? (i := 157) (by decide +kernel), List.mem_of_getElem? (i := 527) (by decide +kernel), List.mem_of_getElem? (i := 528) (by decide +kernel)⟩
theorem lw_p5 : lw_okq (⟨"GoodsUnderWay$Network", "addArc", "(IIII)V"⟩, 17) := ⟨⟨by decide +kernel, by decide +kernel⟩, List.mem_of_getElem? (i := 157) (by decide +kernel), List.mem_of_getElem? (i := 531) (by decide +kernel), List.mem_of_getElem? (i := 532) (by decide +kernel)⟩
theorem lw_p6 : lw_okq (⟨"GoodsUnderWay$Network", "putArc", "(III)V"⟩, 17) := ⟨⟨by decide +kernel, by decide +kernel⟩, List.mem_of_getElem? (i := 157) (by decide +kernel), List.mem_of_getElem? (i := 535) (by decide +kernel), List.mem_of_getElem? (i := 536) (by decide +kernel)⟩
theorem lw_p7 : lw_okq (⟨"GoodsUnderWay$Network", "findLevels", "()Z"⟩, 17) := ⟨⟨by decide +kernel, by decide +kernel⟩, List.mem_of_getElem? (i := 157) (by decide +kernel), List.mem_of_getElem? (i := 551) (by decide +kernel), List.mem_of_getElem? (i := 552) (by decide +kernel)⟩
theorem lw_p8 : lw_okq (⟨"GoodsUnderWay$Network", "fill", "()V"⟩, 17) := ⟨⟨by decide +kernel, by decide +kernel⟩, List.mem_of_getElem? (i := 157) (by decide +kernel), List.mem_of_getElem? (i := 555) (by decide +kernel), List.mem_of_getElem? (i := 556) (by decide +kernel)⟩
theorem lw_p9 : lw_okq (⟨"GoodsUnderWay$Network", "push", "(I)I"⟩, 17) := ⟨⟨by decide +kernel, by decide +kernel⟩, List.mem_of_getElem? (i := 157) (by decide +kernel), List.mem_of_getElem? (i := 563) (by decide +kernel), List.mem_of_getElem? (i := 564) (by decide +kernel)⟩
theorem lw_p10 : lw_okq (⟨"GoodsUnderWay$Network", "nextDown", "(I)I"⟩, 17) := ⟨⟨by decide +kernel, by decide +kernel⟩, List.mem_of_getElem? (i := 157) (by decide +kernel), List.mem_of_getElem? (i := 568) (by decide +kernel), List.mem_of_getElem? (i := 569) (by decide +kernel)⟩
theorem lw_p11 : lw_okq (⟨"GoodsUnderWay$Network", "leadsDown", "(II)Z"⟩, 17) := ⟨⟨by decide +kernel, by decide +kernel⟩, List.mem_of_getElem? (i := 157) (by decide +kernel), List.mem_of_getElem? (i := 572) (by decide +kernel), List.mem_of_getElem? (i := 573) (by decide +kernel)⟩
theorem lw_p12 : lw_okq (⟨"GoodsUnderWay", "ticksUntil", "(II)I"⟩, 9) := ⟨⟨by decide +kernel, by decide +kernel⟩, List.mem_of_getElem? (i := 18) (by decide +kernel), List.mem_of_getElem? (i := 580) (by decide +kernel), List.mem_of_getElem? (i := 581) (by decide +kernel)⟩
theorem lw_p13 : lw_okq (⟨"GoodsUnderWay", "sheetFault", "(I)I"⟩, 9) := ⟨⟨by decide +kernel, by decide +kernel⟩, List.mem_of_getElem? (i := 18) (by decide +kernel), List.mem_of_getElem? (i := 611) (by decide +kernel), List.mem_of_getElem? (i := 612) (by decide +kernel)⟩
theorem lw_p14 : lw_okq (⟨"GoodsUnderWay", "mostHeld", "(IIII)I"⟩, 9) := ⟨⟨by decide +kernel, by decide +kernel⟩, List.mem_of_getElem? (i := 18) (by decide +kernel), List.mem_of_getElem? (i := 644) (by decide +kernel), List.mem_of_getElem? (i := 645) (by decide +kernel)⟩
theorem lw_p15 : lw_okq (⟨"GoodsUnderWay", "mostWidened", "(III)I"⟩, 9) := ⟨⟨by decide +kernel, by decide +kernel⟩, List.mem_of_getElem? (i := 18) (by decide +kernel), List.mem_of_getElem? (i := 661) (by decide +kernel), List.mem_of_getElem? (i := 662) (by decide +kernel)⟩
def lw_privs_1 : List (MethodName × Nat) := [(⟨"GoodsUnderWay", "found", "(I)I"⟩, 9), (⟨"GoodsUnderWay", "isAsked", "(II)Z"⟩, 9), (⟨"GoodsUnderWay", "mostIn", "(LGoodsUnderWay$World;II)I"⟩, 9), (⟨"GoodsUnderWay$Network", "addTick", "(I)V"⟩, 17), (⟨"GoodsUnderWay$Network", "node", "(II)I"⟩, 17), (⟨"GoodsUnderWay$Network", "addArc", "(IIII)V"⟩, 17), (⟨"GoodsUnderWay$Network", "putArc", "(III)V"⟩, 17), (⟨"GoodsUnderWay$Network", "findLevels", "()Z"⟩, 17), (⟨"GoodsUnderWay$Network", "fill", "()V"⟩, 17), (⟨"GoodsUnderWay$Network", "push", "(I)I"⟩, 17), (⟨"GoodsUnderWay$Network", "nextDown", "(I)I"⟩, 17), (⟨"GoodsUnderWay$Network", "leadsDown", "(II)Z"⟩, 17), (⟨"GoodsUnderWay", "ticksUntil", "(II)I"⟩, 9), (⟨"GoodsUnderWay", "sheetFault", "(I)I"⟩, 9), (⟨"GoodsUnderWay", "mostHeld", "(IIII)I"⟩, 9), (⟨"GoodsUnderWay", "mostWidened", "(III)I"⟩, 9)]
theorem lw_r1 : ∀ q ∈ lw_privs_1, lw_okq q := List.forall_mem_cons.mpr ⟨lw_p0, List.forall_mem_cons.mpr ⟨lw_p1, List.forall_mem_cons.mpr ⟨lw_p2, List.forall_mem_cons.mpr ⟨lw_p3, List.forall_mem_cons.mpr ⟨lw_p4, List.forall_mem_cons.mpr ⟨lw_p5, List.forall_mem_cons.mpr ⟨lw_p6, List.forall_mem_cons.mpr ⟨lw_p7, List.forall_mem_cons.mpr ⟨lw_p8, List.forall_mem_cons.mpr ⟨lw_p9, List.forall_mem_cons.mpr ⟨lw_p10, List.forall_mem_cons.mpr ⟨lw_p11, List.forall_mem_cons.mpr ⟨lw_p12, List.forall_mem_cons.mpr ⟨lw_p13, List.forall_mem_cons.mpr ⟨lw_p14, List.forall_mem_cons.mpr ⟨lw_p15, fun _ h => absurd h List.not_mem_nil⟩⟩⟩⟩⟩⟩⟩⟩⟩⟩⟩⟩⟩⟩⟩⟩
theorem lw_p16 : lw_okq (⟨"GoodsUnderWay$Stream", "findQuickest", "(II)Z"⟩, 7) := ⟨⟨by decide +kernel, by decide +kernel⟩, List.mem_of_getElem? (i := 215) (by decide +kernel), List.mem_of_getElem? (i := 710) (by decide +kernel), List.mem_of_getElem? (i := 711) (by decide +kernel)⟩
theorem lw_p17 : lw_okq (⟨"GoodsUnderWay$Stream", "improve", "(I)Z"⟩, 7) := ⟨⟨by decide +kernel, by decide +kernel⟩, List.mem_of_getElem? (i := 215) (by decide +kernel), List.mem_of_getElem? (i := 714) (by decide +kernel), List.mem_of_getElem? (i := 715) (by decide +kernel)⟩
theorem lw_p18 : lw_okq (⟨"GoodsUnderWay$Stream", "tail", "(I)I"⟩, 7) := ⟨⟨by decide +kernel, by decide +kernel⟩, List.mem_of_getElem? (i := 215) (by decide +kernel), List.mem_of_getElem? (i := 718) (by decide +kernel), List.mem_of_getElem? (i := 719) (by decide +kernel)⟩
theorem lw_p19 : lw_okq (⟨"GoodsUnderWay$Stream", "room", "(I)I"⟩, 7) := ⟨⟨by decide +kernel, by decide +kernel⟩, List.mem_of_getElem? (i := 215) (by decide +kernel), List.mem_of_getElem? (i := 722) (by decide +kernel), List.mem_of_getElem? (i := 723) (by decide +kernel)⟩
theorem lw_p20 : lw_okq (⟨"GoodsUnderWay$Stream", "head", "(I)I"⟩, 7) := ⟨⟨by decide +kernel, by decide +kernel⟩, List.mem_of_getElem? (i := 215) (by decide +kernel), List.mem_of_getElem? (i := 727) (by decide +kernel), List.mem_of_getElem? (i := 728) (by decide +kernel)⟩
theorem lw_p21 : lw_okq (⟨"GoodsUnderWay$Stream", "narrowest", "(II)I"⟩, 7) := ⟨⟨by decide +kernel, by decide +kernel⟩, List.mem_of_getElem? (i := 215) (by decide +kernel), List.mem_of_getElem? (i := 731) (by decide +kernel), List.mem_of_getElem? (i := 732) (by decide +kernel)⟩
theorem lw_p22 : lw_okq (⟨"GoodsUnderWay$Stream", "push", "(III)V"⟩, 7) := ⟨⟨by decide +kernel, by decide +kernel⟩, List.mem_of_getElem? (i := 215) (by decide +kernel), List.mem_of_getElem? (i := 737) (by decide +kernel), List.mem_of_getElem? (i := 738) (by decide +kernel)⟩
theorem lw_p23 : lw_okq (⟨"GoodsUnderWay$Tape", "readToken", "()V"⟩, 7) := ⟨⟨by decide +kernel, by decide +kernel⟩, List.mem_of_getElem? (i := 245) (by decide +kernel), List.mem_of_getElem? (i := 787) (by decide +kernel), List.mem_of_getElem? (i := 788) (by decide +kernel)⟩
theorem lw_p24 : lw_okq (⟨"GoodsUnderWay$Tape", "valueOfToken", "()I"⟩, 7) := ⟨⟨by decide +kernel, by decide +kernel⟩, List.mem_of_getElem? (i := 245) (by decide +kernel), List.mem_of_getElem? (i := 794) (by decide +kernel), List.mem_of_getElem? (i := 795) (by decide +kernel)⟩
theorem lw_p25 : lw_okq (⟨"GoodsUnderWay$Tape", "stationKind", "()I"⟩, 7) := ⟨⟨by decide +kernel, by decide +kernel⟩, List.mem_of_getElem? (i := 245) (by decide +kernel), List.mem_of_getElem? (i := 802) (by decide +kernel), List.mem_of_getElem? (i := 803) (by decide +kernel)⟩
theorem lw_p26 : lw_okq (⟨"GoodsUnderWay$Tape", "isWord", "(Ljava/lang/String;)Z"⟩, 7) := ⟨⟨by decide +kernel, by decide +kernel⟩, List.mem_of_getElem? (i := 245) (by decide +kernel), List.mem_of_getElem? (i := 807) (by decide +kernel), List.mem_of_getElem? (i := 808) (by decide +kernel)⟩
theorem lw_p27 : lw_okq (⟨"GoodsUnderWay$Tape", "lineKind", "()I"⟩, 7) := ⟨⟨by decide +kernel, by decide +kernel⟩, List.mem_of_getElem? (i := 245) (by decide +kernel), List.mem_of_getElem? (i := 862) (by decide +kernel), List.mem_of_getElem? (i := 863) (by decide +kernel)⟩
theorem lw_p28 : lw_okq (⟨"GoodsUnderWay$Tape", "readStation", "(LGoodsUnderWay$World;I)V"⟩, 7) := ⟨⟨by decide +kernel, by decide +kernel⟩, List.mem_of_getElem? (i := 245) (by decide +kernel), List.mem_of_getElem? (i := 872) (by decide +kernel), List.mem_of_getElem? (i := 873) (by decide +kernel)⟩
theorem lw_p29 : lw_okq (⟨"GoodsUnderWay$Tape", "takeOption", "(Ljava/lang/String;III)I"⟩, 7) := ⟨⟨by decide +kernel, by decide +kernel⟩, List.mem_of_getElem? (i := 245) (by decide +kernel), List.mem_of_getElem? (i := 877) (by decide +kernel), List.mem_of_getElem? (i := 878) (by decide +kernel)⟩
theorem lw_p30 : lw_okq (⟨"GoodsUnderWay$Tape", "takeWord", "(Ljava/lang/String;)Z"⟩, 7) := ⟨⟨by decide +kernel, by decide +kernel⟩, List.mem_of_getElem? (i := 245) (by decide +kernel), List.mem_of_getElem? (i := 881) (by decide +kernel), List.mem_of_getElem? (i := 882) (by decide +kernel)⟩
theorem lw_p31 : lw_okq (⟨"GoodsUnderWay$Tape", "takeNumber", "(II)I"⟩, 7) := ⟨⟨by decide +kernel, by decide +kernel⟩, List.mem_of_getElem? (i := 245) (by decide +kernel), List.mem_of_getElem? (i := 885) (by decide +kernel), List.mem_of_getElem? (i := 886) (by decide +kernel)⟩
def lw_privs_2 : List (MethodName × Nat) := [(⟨"GoodsUnderWay$Stream", "findQuickest", "(II)Z"⟩, 7), (⟨"GoodsUnderWay$Stream", "improve", "(I)Z"⟩, 7), (⟨"GoodsUnderWay$Stream", "tail", "(I)I"⟩, 7), (⟨"GoodsUnderWay$Stream", "room", "(I)I"⟩, 7), (⟨"GoodsUnderWay$Stream", "head", "(I)I"⟩, 7), (⟨"GoodsUnderWay$Stream", "narrowest", "(II)I"⟩, 7), (⟨"GoodsUnderWay$Stream", "push", "(III)V"⟩, 7), (⟨"GoodsUnderWay$Tape", "readToken", "()V"⟩, 7), (⟨"GoodsUnderWay$Tape", "valueOfToken", "()I"⟩, 7), (⟨"GoodsUnderWay$Tape", "stationKind", "()I"⟩, 7), (⟨"GoodsUnderWay$Tape", "isWord", "(Ljava/lang/String;)Z"⟩, 7), (⟨"GoodsUnderWay$Tape", "lineKind", "()I"⟩, 7), (⟨"GoodsUnderWay$Tape", "readStation", "(LGoodsUnderWay$World;I)V"⟩, 7), (⟨"GoodsUnderWay$Tape", "takeOption", "(Ljava/lang/String;III)I"⟩, 7), (⟨"GoodsUnderWay$Tape", "takeWord", "(Ljava/lang/String;)Z"⟩, 7), (⟨"GoodsUnderWay$Tape", "takeNumber", "(II)I"⟩, 7)]
theorem lw_r2 : ∀ q ∈ lw_privs_2, lw_okq q := List.forall_mem_cons.mpr ⟨lw_p16, List.forall_mem_cons.mpr ⟨lw_p17, List.forall_mem_cons.mpr ⟨lw_p18, List.forall_mem_cons.mpr ⟨lw_p19, List.forall_mem_cons.mpr ⟨lw_p20, List.forall_mem_cons.mpr ⟨lw_p21, List.forall_mem_cons.mpr ⟨lw_p22, List.forall_mem_cons.mpr ⟨lw_p23, List.forall_mem_cons.mpr ⟨lw_p24, List.forall_mem_cons.mpr ⟨lw_p25, List.forall_mem_cons.mpr ⟨lw_p26, List.forall_mem_cons.mpr ⟨lw_p27, List.forall_mem_cons.mpr ⟨lw_p28, List.forall_mem_cons.mpr ⟨lw_p29, List.forall_mem_cons.mpr ⟨lw_p30, List.forall_mem_cons.mpr ⟨lw_p31, fun _ h => absurd h List.not_mem_nil⟩⟩⟩⟩⟩⟩⟩⟩⟩⟩⟩⟩⟩⟩⟩⟩
theorem lw_p32 : lw_okq (⟨"GoodsUnderWay$Tape", "fail", "()V"⟩, 7) := ⟨⟨by decide +kernel, by decide +kernel⟩, List.mem_of_getElem? (i := 245) (by decide +kernel), List.mem_of_getElem? (i := 890) (by decide +kernel), List.mem_of_getElem? (i := 891) (by decide +kernel)⟩
theorem lw_p33 : lw_okq (⟨"GoodsUnderWay$Tape", "readLine", "(LGoodsUnderWay$World;I)V"⟩, 7) := ⟨⟨by decide +kernel, by decide +kernel⟩, List.mem_of_getElem? (i := 245) (by decide +kernel), List.mem_of_getElem? (i := 896) (by decide +kernel), List.mem_of_getElem? (i := 897) (by decide +kernel)⟩
theorem lw_p34 : lw_okq (⟨"GoodsUnderWay", "planFault", "(III)I"⟩, 9) := ⟨⟨by decide +kernel, by decide +kernel⟩, List.mem_of_getElem? (i := 18) (by decide +kernel), List.mem_of_getElem? (i := 956) (by decide +kernel), List.mem_of_getElem? (i := 957) (by decide +kernel)⟩
theorem lw_p35 : lw_okq (⟨"GoodsUnderWay", "follow", "(III)I"⟩, 9) := ⟨⟨by decide +kernel, by decide +kernel⟩, List.mem_of_getElem? (i := 18) (by decide +kernel), List.mem_of_getElem? (i := 960) (by decide +kernel), List.mem_of_getElem? (i := 961) (by decide +kernel)⟩
theorem lw_p36 : lw_okq (⟨"GoodsUnderWayModel", "finds", "(I)I"⟩, 40) := ⟨⟨by decide +kernel, by decide +kernel⟩, List.mem_of_getElem? (i := 994) (by decide +kernel), List.mem_of_getElem? (i := 1132) (by decide +kernel), List.mem_of_getElem? (i := 1133) (by decide +kernel)⟩
theorem lw_p37 : lw_okq (⟨"GoodsUnderWayModel", "addStation", "(III)V"⟩, 40) := ⟨⟨by decide +kernel, by decide +kernel⟩, List.mem_of_getElem? (i := 994) (by decide +kernel), List.mem_of_getElem? (i := 1137) (by decide +kernel), List.mem_of_getElem? (i := 1138) (by decide +kernel)⟩
theorem lw_p38 : lw_okq (⟨"GoodsUnderWayModel", "isStation", "(I)Z"⟩, 40) := ⟨⟨by decide +kernel, by decide +kernel⟩, List.mem_of_getElem? (i := 994) (by decide +kernel), List.mem_of_getElem? (i := 1146) (by decide +kernel), List.mem_of_getElem? (i := 1147) (by decide +kernel)⟩
theorem lw_p39 : lw_okq (⟨"GoodsUnderWayModel", "addLine", "(III)V"⟩, 40) := ⟨⟨by decide +kernel, by decide +kernel⟩, List.mem_of_getElem? (i := 994) (by decide +kernel), List.mem_of_getElem? (i := 1152) (by decide +kernel), List.mem_of_getElem? (i := 1153) (by decide +kernel)⟩
theorem lw_p40 : lw_okq (⟨"GoodsUnderWayModel", "holds", "(II)I"⟩, 40) := ⟨⟨by decide +kernel, by decide +kernel⟩, List.mem_of_getElem? (i := 994) (by decide +kernel), List.mem_of_getElem? (i := 1161) (by decide +kernel), List.mem_of_getElem? (i := 1162) (by decide +kernel)⟩
theorem lw_p41 : lw_okq (⟨"GoodsUnderWayModel", "comesTo", "(I)I"⟩, 40) := ⟨⟨by decide +kernel, by decide +kernel⟩, List.mem_of_getElem? (i := 994) (by decide +kernel), List.mem_of_getElem? (i := 1165) (by decide +kernel), List.mem_of_getElem? (i := 1166) (by decide +kernel)⟩
theorem lw_p42 : lw_okq (⟨"GoodsUnderWayModel", "at", "(II)I"⟩, 40) := ⟨⟨by decide +kernel, by decide +kernel⟩, List.mem_of_getElem? (i := 994) (by decide +kernel), List.mem_of_getElem? (i := 1169) (by decide +kernel), List.mem_of_getElem? (i := 1170) (by decide +kernel)⟩
theorem lw_p43 : lw_okq (⟨"GoodsUnderWayModel", "onWay", "(I)I"⟩, 40) := ⟨⟨by decide +kernel, by decide +kernel⟩, List.mem_of_getElem? (i := 994) (by decide +kernel), List.mem_of_getElem? (i := 1173) (by decide +kernel), List.mem_of_getElem? (i := 1174) (by decide +kernel)⟩
theorem lw_p44 : lw_okq (⟨"GoodsUnderWayModel", "isLine", "(I)Z"⟩, 40) := ⟨⟨by decide +kernel, by decide +kernel⟩, List.mem_of_getElem? (i := 994) (by decide +kernel), List.mem_of_getElem? (i := 1181) (by decide +kernel), List.mem_of_getElem? (i := 1182) (by decide +kernel)⟩
theorem lw_p45 : lw_okq (⟨"GoodsUnderWayModel", "room", "(II)I"⟩, 40) := ⟨⟨by decide +kernel, by decide +kernel⟩, List.mem_of_getElem? (i := 994) (by decide +kernel), List.mem_of_getElem? (i := 1186) (by decide +kernel), List.mem_of_getElem? (i := 1187) (by decide +kernel)⟩
theorem lw_p46 : lw_okq (⟨"GoodsUnderWayModel", "roomBy", "(III)I"⟩, 40) := ⟨⟨by decide +kernel, by decide +kernel⟩, List.mem_of_getElem? (i := 994) (by decide +kernel), List.mem_of_getElem? (i := 1190) (by decide +kernel), List.mem_of_getElem? (i := 1191) (by decide +kernel)⟩
theorem lw_p47 : lw_okq (⟨"GoodsUnderWayModel", "takes", "(I)I"⟩, 40) := ⟨⟨by decide +kernel, by decide +kernel⟩, List.mem_of_getElem? (i := 994) (by decide +kernel), List.mem_of_getElem? (i := 1194) (by decide +kernel), List.mem_of_getElem? (i := 1195) (by decide +kernel)⟩
def lw_privs_3 : List (MethodName × Nat) := [(⟨"GoodsUnderWay$Tape", "fail", "()V"⟩, 7), (⟨"GoodsUnderWay$Tape", "readLine", "(LGoodsUnderWay$World;I)V"⟩, 7), (⟨"GoodsUnderWay", "planFault", "(III)I"⟩, 9), (⟨"GoodsUnderWay", "follow", "(III)I"⟩, 9), (⟨"GoodsUnderWayModel", "finds", "(I)I"⟩, 40), (⟨"GoodsUnderWayModel", "addStation", "(III)V"⟩, 40), (⟨"GoodsUnderWayModel", "isStation", "(I)Z"⟩, 40), (⟨"GoodsUnderWayModel", "addLine", "(III)V"⟩, 40), (⟨"GoodsUnderWayModel", "holds", "(II)I"⟩, 40), (⟨"GoodsUnderWayModel", "comesTo", "(I)I"⟩, 40), (⟨"GoodsUnderWayModel", "at", "(II)I"⟩, 40), (⟨"GoodsUnderWayModel", "onWay", "(I)I"⟩, 40), (⟨"GoodsUnderWayModel", "isLine", "(I)Z"⟩, 40), (⟨"GoodsUnderWayModel", "room", "(II)I"⟩, 40), (⟨"GoodsUnderWayModel", "roomBy", "(III)I"⟩, 40), (⟨"GoodsUnderWayModel", "takes", "(I)I"⟩, 40)]
theorem lw_r3 : ∀ q ∈ lw_privs_3, lw_okq q := List.forall_mem_cons.mpr ⟨lw_p32, List.forall_mem_cons.mpr ⟨lw_p33, List.forall_mem_cons.mpr ⟨lw_p34, List.forall_mem_cons.mpr ⟨lw_p35, List.forall_mem_cons.mpr ⟨lw_p36, List.forall_mem_cons.mpr ⟨lw_p37, List.forall_mem_cons.mpr ⟨lw_p38, List.forall_mem_cons.mpr ⟨lw_p39, List.forall_mem_cons.mpr ⟨lw_p40, List.forall_mem_cons.mpr ⟨lw_p41, List.forall_mem_cons.mpr ⟨lw_p42, List.forall_mem_cons.mpr ⟨lw_p43, List.forall_mem_cons.mpr ⟨lw_p44, List.forall_mem_cons.mpr ⟨lw_p45, List.forall_mem_cons.mpr ⟨lw_p46, List.forall_mem_cons.mpr ⟨lw_p47, fun _ h => absurd h List.not_mem_nil⟩⟩⟩⟩⟩⟩⟩⟩⟩⟩⟩⟩⟩⟩⟩⟩
theorem lw_p48 : lw_okq (⟨"GoodsUnderWayModel", "mayBe", "(III)Z"⟩, 40) := ⟨⟨by decide +kernel, by decide +kernel⟩, List.mem_of_getElem? (i := 994) (by decide +kernel), List.mem_of_getElem? (i := 1207) (by decide +kernel), List.mem_of_getElem? (i := 1208) (by decide +kernel)⟩
theorem lw_p49 : lw_okq (⟨"GoodsUnderWayModel", "canSend", "(IJ)Z"⟩, 40) := ⟨⟨by decide +kernel, by decide +kernel⟩, List.mem_of_getElem? (i := 994) (by decide +kernel), List.mem_of_getElem? (i := 1226) (by decide +kernel), List.mem_of_getElem? (i := 1227) (by decide +kernel)⟩
theorem lw_p50 : lw_okq (⟨"GoodsUnderWayModel", "sends", "(II)V"⟩, 40) := ⟨⟨by decide +kernel, by decide +kernel⟩, List.mem_of_getElem? (i := 994) (by decide +kernel), List.mem_of_getElem? (i := 1231) (by decide +kernel), List.mem_of_getElem? (i := 1232) (by decide +kernel)⟩
theorem lw_p51 : lw_okq (⟨"GoodsUnderWayModel", "oneTick", "()V"⟩, 40) := ⟨⟨by decide +kernel, by decide +kernel⟩, List.mem_of_getElem? (i := 994) (by decide +kernel), List.mem_of_getElem? (i := 1240) (by decide +kernel), List.mem_of_getElem? (i := 1241) (by decide +kernel)⟩
theorem lw_p52 : lw_okq (⟨"GoodsUnderWayModel", "sumOf", "([II)I"⟩, 40) := ⟨⟨by decide +kernel, by decide +kernel⟩, List.mem_of_getElem? (i := 994) (by decide +kernel), List.mem_of_getElem? (i := 1248) (by decide +kernel), List.mem_of_getElem? (i := 1249) (by decide +kernel)⟩
theorem lw_p53 : lw_okq (⟨"GoodsUnderWayModel", "allOnWay", "()I"⟩, 40) := ⟨⟨by decide +kernel, by decide +kernel⟩, List.mem_of_getElem? (i := 994) (by decide +kernel), List.mem_of_getElem? (i := 1252) (by decide +kernel), List.mem_of_getElem? (i := 1253) (by decide +kernel)⟩
theorem lw_p54 : lw_okq (⟨"GoodsUnderWayModel", "roomOfAll", "()I"⟩, 40) := ⟨⟨by decide +kernel, by decide +kernel⟩, List.mem_of_getElem? (i := 994) (by decide +kernel), List.mem_of_getElem? (i := 1256) (by decide +kernel), List.mem_of_getElem? (i := 1257) (by decide +kernel)⟩
theorem lw_p55 : lw_okq (⟨"GoodsUnderWayModel", "losing", "()I"⟩, 40) := ⟨⟨by decide +kernel, by decide +kernel⟩, List.mem_of_getElem? (i := 994) (by decide +kernel), List.mem_of_getElem? (i := 1260) (by decide +kernel), List.mem_of_getElem? (i := 1261) (by decide +kernel)⟩
theorem lw_p56 : lw_okq (⟨"GoodsUnderWayModel", "openLines", "()I"⟩, 40) := ⟨⟨by decide +kernel, by decide +kernel⟩, List.mem_of_getElem? (i := 994) (by decide +kernel), List.mem_of_getElem? (i := 1264) (by decide +kernel), List.mem_of_getElem? (i := 1265) (by decide +kernel)⟩
theorem lw_p57 : lw_okq (⟨"GoodsUnderWayModel", "mostOf", "(II)I"⟩, 40) := ⟨⟨by decide +kernel, by decide +kernel⟩, List.mem_of_getElem? (i := 994) (by decide +kernel), List.mem_of_getElem? (i := 1276) (by decide +kernel), List.mem_of_getElem? (i := 1277) (by decide +kernel)⟩
theorem lw_p58 : lw_okq (⟨"GoodsUnderWayModel", "mostBy", "(IIIIII)I"⟩, 40) := ⟨⟨by decide +kernel, by decide +kernel⟩, List.mem_of_getElem? (i := 994) (by decide +kernel), List.mem_of_getElem? (i := 1280) (by decide +kernel), List.mem_of_getElem? (i := 1281) (by decide +kernel)⟩
theorem lw_p59 : lw_okq (⟨"GoodsUnderWayModel", "layOut", "(IIII)V"⟩, 40) := ⟨⟨by decide +kernel, by decide +kernel⟩, List.mem_of_getElem? (i := 994) (by decide +kernel), List.mem_of_getElem? (i := 1284) (by decide +kernel), List.mem_of_getElem? (i := 1285) (by decide +kernel)⟩
theorem lw_p60 : lw_okq (⟨"GoodsUnderWayModel", "brings", "(II)I"⟩, 40) := ⟨⟨by decide +kernel, by decide +kernel⟩, List.mem_of_getElem? (i := 994) (by decide +kernel), List.mem_of_getElem? (i := 1288) (by decide +kernel), List.mem_of_getElem? (i := 1289) (by decide +kernel)⟩
theorem lw_p61 : lw_okq (⟨"GoodsUnderWayModel", "searches", "(II)I"⟩, 40) := ⟨⟨by decide +kernel, by decide +kernel⟩, List.mem_of_getElem? (i := 994) (by decide +kernel), List.mem_of_getElem? (i := 1292) (by decide +kernel), List.mem_of_getElem? (i := 1293) (by decide +kernel)⟩
theorem lw_p62 : lw_okq (⟨"GoodsUnderWayModel", "meets", "(II)V"⟩, 40) := ⟨⟨by decide +kernel, by decide +kernel⟩, List.mem_of_getElem? (i := 994) (by decide +kernel), List.mem_of_getElem? (i := 1296) (by decide +kernel), List.mem_of_getElem? (i := 1297) (by decide +kernel)⟩
theorem lw_p63 : lw_okq (⟨"GoodsUnderWayModel", "spreads", "(III)I"⟩, 40) := ⟨⟨by decide +kernel, by decide +kernel⟩, List.mem_of_getElem? (i := 994) (by decide +kernel), List.mem_of_getElem? (i := 1300) (by decide +kernel), List.mem_of_getElem? (i := 1301) (by decide +kernel)⟩
def lw_privs_4 : List (MethodName × Nat) := [(⟨"GoodsUnderWayModel", "mayBe", "(III)Z"⟩, 40), (⟨"GoodsUnderWayModel", "canSend", "(IJ)Z"⟩, 40), (⟨"GoodsUnderWayModel", "sends", "(II)V"⟩, 40), (⟨"GoodsUnderWayModel", "oneTick", "()V"⟩, 40), (⟨"GoodsUnderWayModel", "sumOf", "([II)I"⟩, 40), (⟨"GoodsUnderWayModel", "allOnWay", "()I"⟩, 40), (⟨"GoodsUnderWayModel", "roomOfAll", "()I"⟩, 40), (⟨"GoodsUnderWayModel", "losing", "()I"⟩, 40), (⟨"GoodsUnderWayModel", "openLines", "()I"⟩, 40), (⟨"GoodsUnderWayModel", "mostOf", "(II)I"⟩, 40), (⟨"GoodsUnderWayModel", "mostBy", "(IIIIII)I"⟩, 40), (⟨"GoodsUnderWayModel", "layOut", "(IIII)V"⟩, 40), (⟨"GoodsUnderWayModel", "brings", "(II)I"⟩, 40), (⟨"GoodsUnderWayModel", "searches", "(II)I"⟩, 40), (⟨"GoodsUnderWayModel", "meets", "(II)V"⟩, 40), (⟨"GoodsUnderWayModel", "spreads", "(III)I"⟩, 40)]
theorem lw_r4 : ∀ q ∈ lw_privs_4, lw_okq q := List.forall_mem_cons.mpr ⟨lw_p48, List.forall_mem_cons.mpr ⟨lw_p49, List.forall_mem_cons.mpr ⟨lw_p50, List.forall_mem_cons.mpr ⟨lw_p51, List.forall_mem_cons.mpr ⟨lw_p52, List.forall_mem_cons.mpr ⟨lw_p53, List.forall_mem_cons.mpr ⟨lw_p54, List.forall_mem_cons.mpr ⟨lw_p55, List.forall_mem_cons.mpr ⟨lw_p56, List.forall_mem_cons.mpr ⟨lw_p57, List.forall_mem_cons.mpr ⟨lw_p58, List.forall_mem_cons.mpr ⟨lw_p59, List.forall_mem_cons.mpr ⟨lw_p60, List.forall_mem_cons.mpr ⟨lw_p61, List.forall_mem_cons.mpr ⟨lw_p62, List.forall_mem_cons.mpr ⟨lw_p63, fun _ h => absurd h List.not_mem_nil⟩⟩⟩⟩⟩⟩⟩⟩⟩⟩⟩⟩⟩⟩⟩⟩
theorem lw_p64 : lw_okq (⟨"GoodsUnderWayModel", "behind", "(I)I"⟩, 40) := ⟨⟨by decide +kernel, by decide +kernel⟩, List.mem_of_getElem? (i := 994) (by decide +kernel), List.mem_of_getElem? (i := 1304) (by decide +kernel), List.mem_of_getElem? (i := 1305) (by decide +kernel)⟩
theorem lw_p65 : lw_okq (⟨"GoodsUnderWayModel", "leftFor", "(II)I"⟩, 40) := ⟨⟨by decide +kernel, by decide +kernel⟩, List.mem_of_getElem? (i := 994) (by decide +kernel), List.mem_of_getElem? (i := 1308) (by decide +kernel), List.mem_of_getElem? (i := 1309) (by decide +kernel)⟩
theorem lw_p66 : lw_okq (⟨"GoodsUnderWayModel", "moves", "(III)V"⟩, 40) := ⟨⟨by decide +kernel, by decide +kernel⟩, List.mem_of_getElem? (i := 994) (by decide +kernel), List.mem_of_getElem? (i := 1312) (by decide +kernel), List.mem_of_getElem? (i := 1313) (by decide +kernel)⟩
theorem lw_p67 : lw_okq (⟨"GoodsUnderWayModel", "ownTill", "(II)I"⟩, 40) := ⟨⟨by decide +kernel, by decide +kernel⟩, List.mem_of_getElem? (i := 994) (by decide +kernel), List.mem_of_getElem? (i := 1316) (by decide +kernel), List.mem_of_getElem? (i := 1317) (by decide +kernel)⟩
theorem lw_p68 : lw_okq (⟨"GoodsUnderWayModel", "quickOf", "(II)I"⟩, 40) := ⟨⟨by decide +kernel, by decide +kernel⟩, List.mem_of_getElem? (i := 994) (by decide +kernel), List.mem_of_getElem? (i := 1324) (by decide +kernel), List.mem_of_getElem? (i := 1325) (by decide +kernel)⟩
theorem lw_p69 : lw_okq (⟨"GoodsUnderWayModel", "goods", "()I"⟩, 40) := ⟨⟨by decide +kernel, by decide +kernel⟩, List.mem_of_getElem? (i := 994) (by decide +kernel), List.mem_of_getElem? (i := 1333) (by decide +kernel), List.mem_of_getElem? (i := 1334) (by decide +kernel)⟩
theorem lw_p70 : lw_okq (⟨"GoodsUnderWayModel", "areTwo", "(II)Z"⟩, 40) := ⟨⟨by decide +kernel, by decide +kernel⟩, List.mem_of_getElem? (i := 994) (by decide +kernel), List.mem_of_getElem? (i := 1378) (by decide +kernel), List.mem_of_getElem? (i := 1379) (by decide +kernel)⟩
theorem lw_p71 : lw_okq (⟨"GoodsUnderWayModel", "findsGains", "(II)V"⟩, 40) := ⟨⟨by decide +kernel, by decide +kernel⟩, List.mem_of_getElem? (i := 994) (by decide +kernel), List.mem_of_getElem? (i := 1382) (by decide +kernel), List.mem_of_getElem? (i := 1383) (by decide +kernel)⟩
theorem lw_p72 : lw_okq (⟨"GoodsUnderWayModel", "measures", "(I)V"⟩, 40) := ⟨⟨by decide +kernel, by decide +kernel⟩, List.mem_of_getElem? (i := 994) (by decide +kernel), List.mem_of_getElem? (i := 1386) (by decide +kernel), List.mem_of_getElem? (i := 1387) (by decide +kernel)⟩
theorem lw_p73 : lw_okq (⟨"GoodsUnderWayModel", "nearer", "(IIII)Z"⟩, 40) := ⟨⟨by decide +kernel, by decide +kernel⟩, List.mem_of_getElem? (i := 994) (by decide +kernel), List.mem_of_getElem? (i := 1391) (by decide +kernel), List.mem_of_getElem? (i := 1392) (by decide +kernel)⟩
theorem lw_p74 : lw_okq (⟨"GoodsUnderWayModel", "stepBack", "(I)I"⟩, 40) := ⟨⟨by decide +kernel, by decide +kernel⟩, List.mem_of_getElem? (i := 994) (by decide +kernel), List.mem_of_getElem? (i := 1395) (by decide +kernel), List.mem_of_getElem? (i := 1396) (by decide +kernel)⟩
theorem lw_p75 : lw_okq (⟨"GoodsUnderWayModel", "steadyBehind", "(J)J"⟩, 40) := ⟨⟨by decide +kernel, by decide +kernel⟩, List.mem_of_getElem? (i := 994) (by decide +kernel), List.mem_of_getElem? (i := 1399) (by decide +kernel), List.mem_of_getElem? (i := 1400) (by decide +kernel)⟩
theorem lw_p76 : lw_okq (⟨"GoodsUnderWayModel", "next", "()V"⟩, 40) := ⟨⟨by decide +kernel, by decide +kernel⟩, List.mem_of_getElem? (i := 994) (by decide +kernel), List.mem_of_getElem? (i := 1432) (by decide +kernel), List.mem_of_getElem? (i := 1433) (by decide +kernel)⟩
theorem lw_p77 : lw_okq (⟨"GoodsUnderWayModel", "byteAt", "(I)I"⟩, 40) := ⟨⟨by decide +kernel, by decide +kernel⟩, List.mem_of_getElem? (i := 994) (by decide +kernel), List.mem_of_getElem? (i := 1436) (by decide +kernel), List.mem_of_getElem? (i := 1437) (by decide +kernel)⟩
theorem lw_p78 : lw_okq (⟨"GoodsUnderWayModel", "isWordFrom", "(I)Z"⟩, 40) := ⟨⟨by decide +kernel, by decide +kernel⟩, List.mem_of_getElem? (i := 994) (by decide +kernel), List.mem_of_getElem? (i := 1444) (by decide +kernel), List.mem_of_getElem? (i := 1445) (by decide +kernel)⟩
theorem lw_p79 : lw_okq (⟨"GoodsUnderWayModel", "readsItem", "()Z"⟩, 40) := ⟨⟨by decide +kernel, by decide +kernel⟩, List.mem_of_getElem? (i := 994) (by decide +kernel), List.mem_of_getElem? (i := 1448) (by decide +kernel), List.mem_of_getElem? (i := 1449) (by decide +kernel)⟩
def lw_privs_5 : List (MethodName × Nat) := [(⟨"GoodsUnderWayModel", "behind", "(I)I"⟩, 40), (⟨"GoodsUnderWayModel", "leftFor", "(II)I"⟩, 40), (⟨"GoodsUnderWayModel", "moves", "(III)V"⟩, 40), (⟨"GoodsUnderWayModel", "ownTill", "(II)I"⟩, 40), (⟨"GoodsUnderWayModel", "quickOf", "(II)I"⟩, 40), (⟨"GoodsUnderWayModel", "goods", "()I"⟩, 40), (⟨"GoodsUnderWayModel", "areTwo", "(II)Z"⟩, 40), (⟨"GoodsUnderWayModel", "findsGains", "(II)V"⟩, 40), (⟨"GoodsUnderWayModel", "measures", "(I)V"⟩, 40), (⟨"GoodsUnderWayModel", "nearer", "(IIII)Z"⟩, 40), (⟨"GoodsUnderWayModel", "stepBack", "(I)I"⟩, 40), (⟨"GoodsUnderWayModel", "steadyBehind", "(J)J"⟩, 40), (⟨"GoodsUnderWayModel", "next", "()V"⟩, 40), (⟨"GoodsUnderWayModel", "byteAt", "(I)I"⟩, 40), (⟨"GoodsUnderWayModel", "isWordFrom", "(I)Z"⟩, 40), (⟨"GoodsUnderWayModel", "readsItem", "()Z"⟩, 40)]
theorem lw_r5 : ∀ q ∈ lw_privs_5, lw_okq q := List.forall_mem_cons.mpr ⟨lw_p64, List.forall_mem_cons.mpr ⟨lw_p65, List.forall_mem_cons.mpr ⟨lw_p66, List.forall_mem_cons.mpr ⟨lw_p67, List.forall_mem_cons.mpr ⟨lw_p68, List.forall_mem_cons.mpr ⟨lw_p69, List.forall_mem_cons.mpr ⟨lw_p70, List.forall_mem_cons.mpr ⟨lw_p71, List.forall_mem_cons.mpr ⟨lw_p72, List.forall_mem_cons.mpr ⟨lw_p73, List.forall_mem_cons.mpr ⟨lw_p74, List.forall_mem_cons.mpr ⟨lw_p75, List.forall_mem_cons.mpr ⟨lw_p76, List.forall_mem_cons.mpr ⟨lw_p77, List.forall_mem_cons.mpr ⟨lw_p78, List.forall_mem_cons.mpr ⟨lw_p79, fun _ h => absurd h List.not_mem_nil⟩⟩⟩⟩⟩⟩⟩⟩⟩⟩⟩⟩⟩⟩⟩⟩
theorem lw_p80 : lw_okq (⟨"GoodsUnderWayModel", "readsStation", "(I)Z"⟩, 40) := ⟨⟨by decide +kernel, by decide +kernel⟩, List.mem_of_getElem? (i := 994) (by decide +kernel), List.mem_of_getElem? (i := 1452) (by decide +kernel), List.mem_of_getElem? (i := 1453) (by decide +kernel)⟩
theorem lw_p81 : lw_okq (⟨"GoodsUnderWayModel", "perhaps", "(IIII)Z"⟩, 40) := ⟨⟨by decide +kernel, by decide +kernel⟩, List.mem_of_getElem? (i := 994) (by decide +kernel), List.mem_of_getElem? (i := 1456) (by decide +kernel), List.mem_of_getElem? (i := 1457) (by decide +kernel)⟩
theorem lw_p82 : lw_okq (⟨"GoodsUnderWayModel", "isWord", "(I)Z"⟩, 40) := ⟨⟨by decide +kernel, by decide +kernel⟩, List.mem_of_getElem? (i := 994) (by decide +kernel), List.mem_of_getElem? (i := 1460) (by decide +kernel), List.mem_of_getElem? (i := 1461) (by decide +kernel)⟩
theorem lw_p83 : lw_okq (⟨"GoodsUnderWayModel", "takesNumber", "(II)Z"⟩, 40) := ⟨⟨by decide +kernel, by decide +kernel⟩, List.mem_of_getElem? (i := 994) (by decide +kernel), List.mem_of_getElem? (i := 1464) (by decide +kernel), List.mem_of_getElem? (i := 1465) (by decide +kernel)⟩
theorem lw_p84 : lw_okq (⟨"GoodsUnderWayModel", "readsLine", "(I)Z"⟩, 40) := ⟨⟨by decide +kernel, by decide +kernel⟩, List.mem_of_getElem? (i := 994) (by decide +kernel), List.mem_of_getElem? (i := 1468) (by decide +kernel), List.mem_of_getElem? (i := 1469) (by decide +kernel)⟩
theorem lw_p85 : lw_okq (⟨"GoodsUnderWayModel", "plans", "(IIIZ)I"⟩, 40) := ⟨⟨by decide +kernel, by decide +kernel⟩, List.mem_of_getElem? (i := 994) (by decide +kernel), List.mem_of_getElem? (i := 1500) (by decide +kernel), List.mem_of_getElem? (i := 1501) (by decide +kernel)⟩
theorem lw_p86 : lw_okq (⟨"GoodsUnderWayModel", "keeps", "([I)V"⟩, 40) := ⟨⟨by decide +kernel, by decide +kernel⟩, List.mem_of_getElem? (i := 994) (by decide +kernel), List.mem_of_getElem? (i := 1504) (by decide +kernel), List.mem_of_getElem? (i := 1505) (by decide +kernel)⟩
theorem lw_p87 : lw_okq (⟨"GoodsUnderWayModel", "puts", "([II[I)I"⟩, 40) := ⟨⟨by decide +kernel, by decide +kernel⟩, List.mem_of_getElem? (i := 994) (by decide +kernel), List.mem_of_getElem? (i := 1508) (by decide +kernel), List.mem_of_getElem? (i := 1509) (by decide +kernel)⟩
theorem lw_p88 : lw_okq (⟨"GoodsUnderWayModel", "goesBy", "(II)I"⟩, 40) := ⟨⟨by decide +kernel, by decide +kernel⟩, List.mem_of_getElem? (i := 994) (by decide +kernel), List.mem_of_getElem? (i := 1512) (by decide +kernel), List.mem_of_getElem? (i := 1513) (by decide +kernel)⟩
theorem lw_p89 : lw_okq (⟨"GoodsUnderWayModel", "sendsAll", "(II)I"⟩, 40) := ⟨⟨by decide +kernel, by decide +kernel⟩, List.mem_of_getElem? (i := 994) (by decide +kernel), List.mem_of_getElem? (i := 1516) (by decide +kernel), List.mem_of_getElem? (i := 1517) (by decide +kernel)⟩
theorem lw_p90 : lw_okq (⟨"GoodsUnderWayModel", "comesBack", "([I)V"⟩, 40) := ⟨⟨by decide +kernel, by decide +kernel⟩, List.mem_of_getElem? (i := 994) (by decide +kernel), List.mem_of_getElem? (i := 1520) (by decide +kernel), List.mem_of_getElem? (i := 1521) (by decide +kernel)⟩
theorem lw_p91 : lw_okq (⟨"GoodsUnderWayModel", "gets", "([II[I)I"⟩, 40) := ⟨⟨by decide +kernel, by decide +kernel⟩, List.mem_of_getElem? (i := 994) (by decide +kernel), List.mem_of_getElem? (i := 1524) (by decide +kernel), List.mem_of_getElem? (i := 1525) (by decide +kernel)⟩
def lw_privs_6 : List (MethodName × Nat) := [(⟨"GoodsUnderWayModel", "readsStation", "(I)Z"⟩, 40), (⟨"GoodsUnderWayModel", "perhaps", "(IIII)Z"⟩, 40), (⟨"GoodsUnderWayModel", "isWord", "(I)Z"⟩, 40), (⟨"GoodsUnderWayModel", "takesNumber", "(II)Z"⟩, 40), (⟨"GoodsUnderWayModel", "readsLine", "(I)Z"⟩, 40), (⟨"GoodsUnderWayModel", "plans", "(IIIZ)I"⟩, 40), (⟨"GoodsUnderWayModel", "keeps", "([I)V"⟩, 40), (⟨"GoodsUnderWayModel", "puts", "([II[I)I"⟩, 40), (⟨"GoodsUnderWayModel", "goesBy", "(II)I"⟩, 40), (⟨"GoodsUnderWayModel", "sendsAll", "(II)I"⟩, 40), (⟨"GoodsUnderWayModel", "comesBack", "([I)V"⟩, 40), (⟨"GoodsUnderWayModel", "gets", "([II[I)I"⟩, 40)]
theorem lw_r6 : ∀ q ∈ lw_privs_6, lw_okq q := List.forall_mem_cons.mpr ⟨lw_p80, List.forall_mem_cons.mpr ⟨lw_p81, List.forall_mem_cons.mpr ⟨lw_p82, List.forall_mem_cons.mpr ⟨lw_p83, List.forall_mem_cons.mpr ⟨lw_p84, List.forall_mem_cons.mpr ⟨lw_p85, List.forall_mem_cons.mpr ⟨lw_p86, List.forall_mem_cons.mpr ⟨lw_p87, List.forall_mem_cons.mpr ⟨lw_p88, List.forall_mem_cons.mpr ⟨lw_p89, List.forall_mem_cons.mpr ⟨lw_p90, List.forall_mem_cons.mpr ⟨lw_p91, fun _ h => absurd h List.not_mem_nil⟩⟩⟩⟩⟩⟩⟩⟩⟩⟩⟩⟩
def lw_privs : List (MethodName × Nat) := lw_privs_1 ++ (lw_privs_2 ++ (lw_privs_3 ++ (lw_privs_4 ++ (lw_privs_5 ++ (lw_privs_6)))))
def lw_tbl : List Cond := k2_sels lw_privs ++ tables_1
theorem lw_privs_ok : ∀ q ∈ lw_privs, lw_okq q := by
  show ∀ q ∈ lw_privs_1 ++ (lw_privs_2 ++ (lw_privs_3 ++ (lw_privs_4 ++ (lw_privs_5 ++ (lw_privs_6))))), lw_okq q
  exact List.forall_mem_append.mpr ⟨lw_r1, List.forall_mem_append.mpr ⟨lw_r2, List.forall_mem_append.mpr ⟨lw_r3, List.forall_mem_append.mpr ⟨lw_r4, List.forall_mem_append.mpr ⟨lw_r5, lw_r6⟩⟩⟩⟩⟩
/-! ===== BEGIN words of one list among another's, by their places ===== -/
theorem goodIn_r {big : List Cond} (ws : List Cond) (ps : List Nat) (hp : ws = ps.filterMap (fun i => big[i]?)) (h : ws.all goodWord = true) : GoodIn big ws := by
  intro w hw
  have h1 := List.all_eq_true.mp h w hw
  rw [hp] at hw
  obtain ⟨i, -, hi⟩ := List.mem_filterMap.mp hw
  have hm : w ∈ big := by first | exact List.mem_of_getElem? hi | exact List.getElem?_mem hi
  exact ⟨hm, good_of_word h1⟩
theorem goodIn_app {big a b : List Cond} (ha : GoodIn big a) (hb : GoodIn big b) : GoodIn big (a ++ b) := fun w h => (List.mem_append.mp h).elim (ha w) (hb w)
theorem goodIn_ca {big a b : List Cond} {c : Cond} (ha : GoodIn big (c :: a)) (hb : GoodIn big b) : GoodIn big (c :: (a ++ b)) := fun w h => (List.mem_cons.mp h).elim (fun e => ha w (List.mem_cons.mpr (Or.inl e))) (fun h => (List.mem_append.mp h).elim (fun h => ha w (List.mem_cons.mpr (Or.inr h))) (hb w))
theorem goodIn_sub {big ws : List Cond} (hm : ∀ w ∈ ws, w ∈ big) (h : ws.all goodWord = true) : GoodIn big ws := fun w hw => ⟨hm w hw, good_of_word (List.all_eq_true.mp h w hw)⟩
/-! ===== END ===== -/

/-! ===== BEGIN printed: names, fields, word lists, decode rows ===== -/
def RX0 : String := "GoodsUnderWay$Line"
def TX0 : u_T := fun k => match k with
  | 0 => ("GoodsUnderWay$Line", "kind", "I", false)
  | 1 => ("GoodsUnderWay$Line", "from", "I", false)
  | 2 => ("GoodsUnderWay$Line", "to", "I", false)
  | 3 => ("GoodsUnderWay$Line", "width", "I", false)
  | 4 => ("GoodsUnderWay$Line", "length", "I", false)
  | 5 => ("GoodsUnderWay$Line", "tide", "I", false)
  | 6 => ("GoodsUnderWay$Line", "later", "I", false)
  | 7 => ("GoodsUnderWay$Line", "shift", "I", false)
  | 8 => ("GoodsUnderWay$Line", "sent", "I", false)
  | _ => ("GoodsUnderWay$Line", "way", "[I", true)
def tyX0 : Nat → FieldType := fun k => match k with
  | 0 => .int
  | 1 => .int
  | 2 => .int
  | 3 => .int
  | 4 => .int
  | 5 => .int
  | 6 => .int
  | 7 => .int
  | 8 => .int
  | _ => .array .int
abbrev wsX00 : List Cond := u_ws RX0 TX0 10
theorem nmX0 : ∀ a, a < 10 → ∀ b, b < 10 → a ≠ b → (TX0 a).2.1 ≠ (TX0 b).2.1 := by decide +kernel
theorem tyX0_ok : ∀ k, k < 10 → parseFieldDescriptor (TX0 k).2.2.1 = some (tyX0 k) := by decide +kernel
abbrev cX0_init : ByteArray := prog_2_method_1_code
def yX0_init : MethodName := ⟨RX0, "<init>", "()V"⟩
abbrev cX0_become : ByteArray := prog_2_method_2_code
def yX0_become : MethodName := ⟨RX0, "become", "(LGoodsUnderWay$Line;)V"⟩
abbrev cX0_room : ByteArray := prog_2_method_3_code
def yX0_room : MethodName := ⟨RX0, "room", "(I)I"⟩
abbrev cX0_takes : ByteArray := prog_2_method_4_code
def yX0_takes : MethodName := ⟨RX0, "takes", "()I"⟩
abbrev cX0_underWay : ByteArray := prog_2_method_5_code
def yX0_underWay : MethodName := ⟨RX0, "underWay", "()I"⟩
abbrev cX0_setting : ByteArray := prog_2_method_6_code
def yX0_setting : MethodName := ⟨RX0, "setting", "(I)I"⟩
abbrev cX0_least : ByteArray := prog_2_method_7_code
def yX0_least : MethodName := ⟨RX0, "least", "(I)I"⟩
abbrev cX0_greatest : ByteArray := prog_2_method_8_code
def yX0_greatest : MethodName := ⟨RX0, "greatest", "(I)I"⟩
abbrev cX0_replace : ByteArray := prog_2_method_9_code
def yX0_replace : MethodName := ⟨RX0, "replace", "(II)I"⟩
def RX1 : String := "GoodsUnderWay$Network"
def TX1 : u_T := fun k => match k with
  | 0 => ("GoodsUnderWay$Network", "world", "LGoodsUnderWay$World;", false)
  | 1 => ("GoodsUnderWay$Network", "goal", "I", false)
  | 2 => ("GoodsUnderWay$Network", "heldLine", "I", false)
  | 3 => ("GoodsUnderWay$Network", "heldTo", "I", false)
  | 4 => ("GoodsUnderWay$Network", "ticks", "I", false)
  | 5 => ("GoodsUnderWay$Network", "flow", "I", false)
  | 6 => ("GoodsUnderWay$Network", "arcs", "I", false)
  | 7 => ("GoodsUnderWay$Network", "first", "[I", true)
  | 8 => ("GoodsUnderWay$Network", "next", "[I", true)
  | 9 => ("GoodsUnderWay$Network", "into", "[I", true)
  | 10 => ("GoodsUnderWay$Network", "left", "[I", true)
  | 11 => ("GoodsUnderWay$Network", "owner", "[I", true)
  | 12 => ("GoodsUnderWay$Network", "level", "[I", true)
  | 13 => ("GoodsUnderWay$Network", "turn", "[I", true)
  | 14 => ("GoodsUnderWay$Network", "path", "[I", true)
  | 15 => ("GoodsUnderWay$Network", "queue", "[I", true)
  | _ => ("GoodsUnderWay$Network", "near", "[I", true)
def tyX1 : Nat → FieldType := fun k => match k with
  | 0 => .object "GoodsUnderWay$World"
  | 1 => .int
  | 2 => .int
  | 3 => .int
  | 4 => .int
  | 5 => .int
  | 6 => .int
  | 7 => .array .int
  | 8 => .array .int
  | 9 => .array .int
  | 10 => .array .int
  | 11 => .array .int
  | 12 => .array .int
  | 13 => .array .int
  | 14 => .array .int
  | 15 => .array .int
  | _ => .array .int
abbrev wsX10 : List Cond := u_ws RX1 TX1 17
theorem nmX1 : ∀ a, a < 17 → ∀ b, b < 17 → a ≠ b → (TX1 a).2.1 ≠ (TX1 b).2.1 := by decide +kernel
theorem tyX1_ok : ∀ k, k < 17 → parseFieldDescriptor (TX1 k).2.2.1 = some (tyX1 k) := by decide +kernel
abbrev cX1_init : ByteArray := prog_3_method_1_code
def yX1_init : MethodName := ⟨RX1, "<init>", "()V"⟩
abbrev cX1_open : ByteArray := prog_3_method_2_code
def yX1_open : MethodName := ⟨RX1, "open", "(LGoodsUnderWay$World;I)V"⟩
abbrev cX1_hold : ByteArray := prog_3_method_3_code
def yX1_hold : MethodName := ⟨RX1, "hold", "(II)V"⟩
abbrev cX1_flowBehind : ByteArray := prog_3_method_4_code
def yX1_flowBehind : MethodName := ⟨RX1, "flowBehind", "(I)I"⟩
abbrev cX1_node : ByteArray := prog_3_method_5_code
def yX1_node : MethodName := ⟨RX1, "node", "(II)I"⟩
abbrev cX1_addTick : ByteArray := prog_3_method_6_code
def yX1_addTick : MethodName := ⟨RX1, "addTick", "(I)V"⟩
abbrev cX1_addArc : ByteArray := prog_3_method_7_code
def yX1_addArc : MethodName := ⟨RX1, "addArc", "(IIII)V"⟩
abbrev cX1_putArc : ByteArray := prog_3_method_8_code
def yX1_putArc : MethodName := ⟨RX1, "putArc", "(III)V"⟩
abbrev cX1_findLevels : ByteArray := prog_3_method_9_code
def yX1_findLevels : MethodName := ⟨RX1, "findLevels", "()Z"⟩
abbrev cX1_fill : ByteArray := prog_3_method_10_code
def yX1_fill : MethodName := ⟨RX1, "fill", "()V"⟩
abbrev cX1_nextDown : ByteArray := prog_3_method_11_code
def yX1_nextDown : MethodName := ⟨RX1, "nextDown", "(I)I"⟩
abbrev cX1_leadsDown : ByteArray := prog_3_method_12_code
def yX1_leadsDown : MethodName := ⟨RX1, "leadsDown", "(II)Z"⟩
abbrev cX1_push : ByteArray := prog_3_method_13_code
def yX1_push : MethodName := ⟨RX1, "push", "(I)I"⟩
abbrev cX1_searchNear : ByteArray := prog_3_method_14_code
def yX1_searchNear : MethodName := ⟨RX1, "searchNear", "()V"⟩
abbrev cX1_ticksNear : ByteArray := prog_3_method_15_code
def yX1_ticksNear : MethodName := ⟨RX1, "ticksNear", "(I)I"⟩
abbrev cX1_stationsNear : ByteArray := prog_3_method_16_code
def yX1_stationsNear : MethodName := ⟨RX1, "stationsNear", "()I"⟩
abbrev cX1_canStillSendFrom : ByteArray := prog_3_method_17_code
def yX1_canStillSendFrom : MethodName := ⟨RX1, "canStillSendFrom", "(I)Z"⟩
abbrev cX1_busyLines : ByteArray := prog_3_method_18_code
def yX1_busyLines : MethodName := ⟨RX1, "busyLines", "()I"⟩
abbrev cX1_peak : ByteArray := prog_3_method_19_code
def yX1_peak : MethodName := ⟨RX1, "peak", "(I)I"⟩
def RX2 : String := "GoodsUnderWay$Sheet"
def TX2 : u_T := fun k => match k with
  | 0 => ("GoodsUnderWay$Sheet", "row", "[J", true)
  | 1 => ("GoodsUnderWay$Sheet", "bits", "I", false)
  | _ => ("GoodsUnderWay$Sheet", "size", "I", false)
def tyX2 : Nat → FieldType := fun k => match k with
  | 0 => .array .long
  | 1 => .int
  | _ => .int
abbrev wsX20 : List Cond := u_ws RX2 TX2 3
theorem nmX2 : ∀ a, a < 3 → ∀ b, b < 3 → a ≠ b → (TX2 a).2.1 ≠ (TX2 b).2.1 := by decide +kernel
theorem tyX2_ok : ∀ k, k < 3 → parseFieldDescriptor (TX2 k).2.2.1 = some (tyX2 k) := by decide +kernel
abbrev cX2_init : ByteArray := prog_4_method_1_code
def yX2_init : MethodName := ⟨RX2, "<init>", "()V"⟩
abbrev cX2_hasBits : ByteArray := prog_4_method_2_code
def yX2_hasBits : MethodName := ⟨RX2, "hasBits", "(I)Z"⟩
abbrev cX2_renew : ByteArray := prog_4_method_3_code
def yX2_renew : MethodName := ⟨RX2, "renew", "(II)V"⟩
abbrev cX2_put : ByteArray := prog_4_method_4_code
def yX2_put : MethodName := ⟨RX2, "put", "(IJ)V"⟩
abbrev cX2_hasPart : ByteArray := prog_4_method_5_code
def yX2_hasPart : MethodName := ⟨RX2, "hasPart", "(II)Z"⟩
abbrev cX2_entry : ByteArray := prog_4_method_6_code
def yX2_entry : MethodName := ⟨RX2, "entry", "(II)I"⟩
def RX3 : String := "GoodsUnderWay$Station"
def TX3 : u_T := fun k => match k with
  | 0 => ("GoodsUnderWay$Station", "kind", "I", false)
  | 1 => ("GoodsUnderWay$Station", "stock", "I", false)
  | _ => ("GoodsUnderWay$Station", "store", "I", false)
def tyX3 : Nat → FieldType := fun k => match k with
  | 0 => .int
  | 1 => .int
  | _ => .int
abbrev wsX30 : List Cond := u_ws RX3 TX3 3
theorem nmX3 : ∀ a, a < 3 → ∀ b, b < 3 → a ≠ b → (TX3 a).2.1 ≠ (TX3 b).2.1 := by decide +kernel
theorem tyX3_ok : ∀ k, k < 3 → parseFieldDescriptor (TX3 k).2.2.1 = some (tyX3 k) := by decide +kernel
abbrev cX3_init : ByteArray := prog_5_method_1_code
def yX3_init : MethodName := ⟨RX3, "<init>", "()V"⟩
abbrev cX3_become : ByteArray := prog_5_method_2_code
def yX3_become : MethodName := ⟨RX3, "become", "(LGoodsUnderWay$Station;)V"⟩
abbrev cX3_holds : ByteArray := prog_5_method_3_code
def yX3_holds : MethodName := ⟨RX3, "holds", "(I)I"⟩
abbrev cX3_greatest : ByteArray := prog_5_method_4_code
def yX3_greatest : MethodName := ⟨RX3, "greatest", "(I)I"⟩
abbrev cX3_replace : ByteArray := prog_5_method_5_code
def yX3_replace : MethodName := ⟨RX3, "replace", "(II)I"⟩
def RX4 : String := "GoodsUnderWay$Stream"
def TX4 : u_T := fun k => match k with
  | 0 => ("GoodsUnderWay$Stream", "world", "LGoodsUnderWay$World;", false)
  | 1 => ("GoodsUnderWay$Stream", "gains", "[I", true)
  | 2 => ("GoodsUnderWay$Stream", "rate", "I", false)
  | 3 => ("GoodsUnderWay$Stream", "left", "[I", true)
  | 4 => ("GoodsUnderWay$Stream", "used", "[I", true)
  | 5 => ("GoodsUnderWay$Stream", "ticks", "[I", true)
  | _ => ("GoodsUnderWay$Stream", "by", "[I", true)
def tyX4 : Nat → FieldType := fun k => match k with
  | 0 => .object "GoodsUnderWay$World"
  | 1 => .array .int
  | 2 => .int
  | 3 => .array .int
  | 4 => .array .int
  | 5 => .array .int
  | _ => .array .int
abbrev wsX40 : List Cond := u_ws RX4 TX4 7
theorem nmX4 : ∀ a, a < 7 → ∀ b, b < 7 → a ≠ b → (TX4 a).2.1 ≠ (TX4 b).2.1 := by decide +kernel
theorem tyX4_ok : ∀ k, k < 7 → parseFieldDescriptor (TX4 k).2.2.1 = some (tyX4 k) := by decide +kernel
abbrev cX4_init : ByteArray := prog_6_method_1_code
def yX4_init : MethodName := ⟨RX4, "<init>", "()V"⟩
abbrev cX4_solve : ByteArray := prog_6_method_2_code
def yX4_solve : MethodName := ⟨RX4, "solve", "(LGoodsUnderWay$World;II)V"⟩
abbrev cX4_findQuickest : ByteArray := prog_6_method_3_code
def yX4_findQuickest : MethodName := ⟨RX4, "findQuickest", "(II)Z"⟩
abbrev cX4_improve : ByteArray := prog_6_method_4_code
def yX4_improve : MethodName := ⟨RX4, "improve", "(I)Z"⟩
abbrev cX4_tail : ByteArray := prog_6_method_5_code
def yX4_tail : MethodName := ⟨RX4, "tail", "(I)I"⟩
abbrev cX4_head : ByteArray := prog_6_method_6_code
def yX4_head : MethodName := ⟨RX4, "head", "(I)I"⟩
abbrev cX4_room : ByteArray := prog_6_method_7_code
def yX4_room : MethodName := ⟨RX4, "room", "(I)I"⟩
abbrev cX4_narrowest : ByteArray := prog_6_method_8_code
def yX4_narrowest : MethodName := ⟨RX4, "narrowest", "(II)I"⟩
abbrev cX4_push : ByteArray := prog_6_method_9_code
def yX4_push : MethodName := ⟨RX4, "push", "(III)V"⟩
abbrev cX4_behind : ByteArray := prog_6_method_10_code
def yX4_behind : MethodName := ⟨RX4, "behind", "(J)J"⟩
abbrev cX4_ticksUntil : ByteArray := prog_6_method_11_code
def yX4_ticksUntil : MethodName := ⟨RX4, "ticksUntil", "(I)J"⟩
def RX5 : String := "GoodsUnderWay$Tape"
def TX5 : u_T := fun k => match k with
  | 0 => ("GoodsUnderWay$Tape", "bytes", "[I", true)
  | 1 => ("GoodsUnderWay$Tape", "size", "I", false)
  | 2 => ("GoodsUnderWay$Tape", "fault", "I", false)
  | 3 => ("GoodsUnderWay$Tape", "sort", "I", false)
  | 4 => ("GoodsUnderWay$Tape", "place", "I", false)
  | 5 => ("GoodsUnderWay$Tape", "behind", "I", false)
  | _ => ("GoodsUnderWay$Tape", "value", "I", false)
def tyX5 : Nat → FieldType := fun k => match k with
  | 0 => .array .int
  | 1 => .int
  | 2 => .int
  | 3 => .int
  | 4 => .int
  | 5 => .int
  | _ => .int
abbrev wsX50 : List Cond := u_ws RX5 TX5 7
theorem nmX5 : ∀ a, a < 7 → ∀ b, b < 7 → a ≠ b → (TX5 a).2.1 ≠ (TX5 b).2.1 := by decide +kernel
theorem tyX5_ok : ∀ k, k < 7 → parseFieldDescriptor (TX5 k).2.2.1 = some (tyX5 k) := by decide +kernel
abbrev cX5_init : ByteArray := prog_7_method_1_code
def yX5_init : MethodName := ⟨RX5, "<init>", "()V"⟩
abbrev cX5_add : ByteArray := prog_7_method_2_code
def yX5_add : MethodName := ⟨RX5, "add", "(I)V"⟩
abbrev cX5_start : ByteArray := prog_7_method_3_code
def yX5_start : MethodName := ⟨RX5, "start", "()V"⟩
abbrev cX5_takeSign : ByteArray := prog_7_method_4_code
def yX5_takeSign : MethodName := ⟨RX5, "takeSign", "()Z"⟩
abbrev cX5_fail : ByteArray := prog_7_method_5_code
def yX5_fail : MethodName := ⟨RX5, "fail", "()V"⟩
abbrev cX5_readToken : ByteArray := prog_7_method_6_code
def yX5_readToken : MethodName := ⟨RX5, "readToken", "()V"⟩
abbrev cX5_sortOf : ByteArray := prog_7_method_7_code
def yX5_sortOf : MethodName := ⟨RX5, "sortOf", "(I)I"⟩
abbrev cX5_valueOfToken : ByteArray := prog_7_method_8_code
def yX5_valueOfToken : MethodName := ⟨RX5, "valueOfToken", "()I"⟩
abbrev cX5_isWord : ByteArray := prog_7_method_9_code
def yX5_isWord : MethodName := ⟨RX5, "isWord", "(Ljava/lang/String;)Z"⟩
abbrev cX5_takeWord : ByteArray := prog_7_method_10_code
def yX5_takeWord : MethodName := ⟨RX5, "takeWord", "(Ljava/lang/String;)Z"⟩
abbrev cX5_takeNumber : ByteArray := prog_7_method_11_code
def yX5_takeNumber : MethodName := ⟨RX5, "takeNumber", "(II)I"⟩
abbrev cX5_takeOption : ByteArray := prog_7_method_12_code
def yX5_takeOption : MethodName := ⟨RX5, "takeOption", "(Ljava/lang/String;III)I"⟩
abbrev cX5_stationKind : ByteArray := prog_7_method_13_code
def yX5_stationKind : MethodName := ⟨RX5, "stationKind", "()I"⟩
abbrev cX5_lineKind : ByteArray := prog_7_method_14_code
def yX5_lineKind : MethodName := ⟨RX5, "lineKind", "()I"⟩
abbrev cX5_readItem : ByteArray := prog_7_method_15_code
def yX5_readItem : MethodName := ⟨RX5, "readItem", "(LGoodsUnderWay$World;)V"⟩
abbrev cX5_readStation : ByteArray := prog_7_method_16_code
def yX5_readStation : MethodName := ⟨RX5, "readStation", "(LGoodsUnderWay$World;I)V"⟩
abbrev cX5_readLine : ByteArray := prog_7_method_17_code
def yX5_readLine : MethodName := ⟨RX5, "readLine", "(LGoodsUnderWay$World;I)V"⟩
def RX6 : String := "GoodsUnderWay$World"
def TX6 : u_T := fun k => match k with
  | 0 => ("GoodsUnderWay$World", "tick", "I", false)
  | 1 => ("GoodsUnderWay$World", "lost", "I", false)
  | 2 => ("GoodsUnderWay$World", "stations", "I", false)
  | 3 => ("GoodsUnderWay$World", "lines", "I", false)
  | 4 => ("GoodsUnderWay$World", "station", "[LGoodsUnderWay$Station;", true)
  | _ => ("GoodsUnderWay$World", "line", "[LGoodsUnderWay$Line;", true)
def tyX6 : Nat → FieldType := fun k => match k with
  | 0 => .int
  | 1 => .int
  | 2 => .int
  | 3 => .int
  | 4 => .array (.object "GoodsUnderWay$Station")
  | _ => .array (.object "GoodsUnderWay$Line")
abbrev wsX60 : List Cond := u_ws RX6 TX6 6
theorem nmX6 : ∀ a, a < 6 → ∀ b, b < 6 → a ≠ b → (TX6 a).2.1 ≠ (TX6 b).2.1 := by decide +kernel
theorem tyX6_ok : ∀ k, k < 6 → parseFieldDescriptor (TX6 k).2.2.1 = some (tyX6 k) := by decide +kernel
abbrev cX6_init : ByteArray := prog_8_method_1_code
def yX6_init : MethodName := ⟨RX6, "<init>", "()V"⟩
abbrev cX6_become : ByteArray := prog_8_method_2_code
def yX6_become : MethodName := ⟨RX6, "become", "(LGoodsUnderWay$World;)V"⟩
abbrev cX6_hasStation : ByteArray := prog_8_method_3_code
def yX6_hasStation : MethodName := ⟨RX6, "hasStation", "(I)Z"⟩
abbrev cX6_hasLine : ByteArray := prog_8_method_4_code
def yX6_hasLine : MethodName := ⟨RX6, "hasLine", "(I)Z"⟩
abbrev cX6_areTwo : ByteArray := prog_8_method_5_code
def yX6_areTwo : MethodName := ⟨RX6, "areTwo", "(II)Z"⟩
abbrev cX6_addStation : ByteArray := prog_8_method_6_code
def yX6_addStation : MethodName := ⟨RX6, "addStation", "(II)I"⟩
abbrev cX6_addLine : ByteArray := prog_8_method_7_code
def yX6_addLine : MethodName := ⟨RX6, "addLine", "(III)I"⟩
abbrev cX6_dispatch : ByteArray := prog_8_method_8_code
def yX6_dispatch : MethodName := ⟨RX6, "dispatch", "(JJ)Z"⟩
abbrev cX6_passTick : ByteArray := prog_8_method_9_code
def yX6_passTick : MethodName := ⟨RX6, "passTick", "()V"⟩
abbrev cX6_follow : ByteArray := prog_8_method_10_code
def yX6_follow : MethodName := ⟨RX6, "follow", "(LGoodsUnderWay$Sheet;I)I"⟩
abbrev cX6_allStock : ByteArray := prog_8_method_11_code
def yX6_allStock : MethodName := ⟨RX6, "allStock", "()I"⟩
abbrev cX6_allUnderWay : ByteArray := prog_8_method_12_code
def yX6_allUnderWay : MethodName := ⟨RX6, "allUnderWay", "()I"⟩
abbrev cX6_allGoods : ByteArray := prog_8_method_13_code
def yX6_allGoods : MethodName := ⟨RX6, "allGoods", "()I"⟩
abbrev cX6_allSent : ByteArray := prog_8_method_14_code
def yX6_allSent : MethodName := ⟨RX6, "allSent", "()I"⟩
abbrev cX6_allRoom : ByteArray := prog_8_method_15_code
def yX6_allRoom : MethodName := ⟨RX6, "allRoom", "()I"⟩
abbrev cX6_losingStations : ByteArray := prog_8_method_16_code
def yX6_losingStations : MethodName := ⟨RX6, "losingStations", "()I"⟩
abbrev cX6_openLines : ByteArray := prog_8_method_17_code
def yX6_openLines : MethodName := ⟨RX6, "openLines", "()I"⟩
abbrev cX6_comingTo : ByteArray := prog_8_method_18_code
def yX6_comingTo : MethodName := ⟨RX6, "comingTo", "(I)I"⟩
abbrev cX6_supply : ByteArray := prog_8_method_19_code
def yX6_supply : MethodName := ⟨RX6, "supply", "(II)I"⟩
abbrev cX6_roomAhead : ByteArray := prog_8_method_20_code
def yX6_roomAhead : MethodName := ⟨RX6, "roomAhead", "(III)I"⟩
abbrev cX6_costOutside : ByteArray := prog_8_method_21_code
def yX6_costOutside : MethodName := ⟨RX6, "costOutside", "(LGoodsUnderWay$Sheet;I)I"⟩
abbrev cX6_costOfLines : ByteArray := prog_8_method_22_code
def yX6_costOfLines : MethodName := ⟨RX6, "costOfLines", "(LGoodsUnderWay$Sheet;I)I"⟩
def RX7 : String := "GoodsUnderWay"
def TX7 : u_T := fun k => match k with
  | 0 => ("GoodsUnderWay", "world", "LGoodsUnderWay$World;", true)
  | 1 => ("GoodsUnderWay", "kept", "LGoodsUnderWay$World;", true)
  | 2 => ("GoodsUnderWay", "thought", "LGoodsUnderWay$World;", true)
  | 3 => ("GoodsUnderWay", "network", "LGoodsUnderWay$Network;", true)
  | 4 => ("GoodsUnderWay", "stream", "LGoodsUnderWay$Stream;", true)
  | 5 => ("GoodsUnderWay", "tape", "LGoodsUnderWay$Tape;", true)
  | 6 => ("GoodsUnderWay", "sheets", "[LGoodsUnderWay$Sheet;", true)
  | 7 => ("GoodsUnderWay", "findings", "[I", true)
  | _ => ("GoodsUnderWay", "isKept", "Z", false)
def tyX7 : Nat → FieldType := fun k => match k with
  | 0 => .object "GoodsUnderWay$World"
  | 1 => .object "GoodsUnderWay$World"
  | 2 => .object "GoodsUnderWay$World"
  | 3 => .object "GoodsUnderWay$Network"
  | 4 => .object "GoodsUnderWay$Stream"
  | 5 => .object "GoodsUnderWay$Tape"
  | 6 => .array (.object "GoodsUnderWay$Sheet")
  | 7 => .array .int
  | _ => .boolean
abbrev wsX70 : List Cond := u_ws RX7 TX7 9
theorem nmX7 : ∀ a, a < 9 → ∀ b, b < 9 → a ≠ b → (TX7 a).2.1 ≠ (TX7 b).2.1 := by decide +kernel
theorem tyX7_ok : ∀ k, k < 9 → parseFieldDescriptor (TX7 k).2.2.1 = some (tyX7 k) := by decide +kernel
abbrev cX7_init : ByteArray := prog_1_method_1_code
def yX7_init : MethodName := ⟨RX7, "<init>", "()V"⟩
abbrev cX7_station : ByteArray := prog_1_method_2_code
def yX7_station : MethodName := ⟨RX7, "station", "(II)I"⟩
abbrev cX7_line : ByteArray := prog_1_method_3_code
def yX7_line : MethodName := ⟨RX7, "line", "(IIIII)I"⟩
abbrev cX7_of : ByteArray := prog_1_method_4_code
def yX7_of : MethodName := ⟨RX7, "of", "(II)I"⟩
abbrev cX7_its : ByteArray := prog_1_method_5_code
def yX7_its : MethodName := ⟨RX7, "its", "(II)I"⟩
abbrev cX7_set : ByteArray := prog_1_method_6_code
def yX7_set : MethodName := ⟨RX7, "set", "(III)I"⟩
abbrev cX7_change : ByteArray := prog_1_method_7_code
def yX7_change : MethodName := ⟨RX7, "change", "(III)I"⟩
abbrev cX7_as : ByteArray := prog_1_method_8_code
def yX7_as : MethodName := ⟨RX7, "as", "(II)I"⟩
abbrev cX7_stands : ByteArray := prog_1_method_9_code
def yX7_stands : MethodName := ⟨RX7, "stands", "(II)I"⟩
abbrev cX7_send : ByteArray := prog_1_method_10_code
def yX7_send : MethodName := ⟨RX7, "send", "(II)I"⟩
abbrev cX7_go : ByteArray := prog_1_method_11_code
def yX7_go : MethodName := ⟨RX7, "go", "(I)I"⟩
abbrev cX7_now : ByteArray := prog_1_method_12_code
def yX7_now : MethodName := ⟨RX7, "now", "(I)I"⟩
abbrev cX7_most : ByteArray := prog_1_method_13_code
def yX7_most : MethodName := ⟨RX7, "most", "(II)I"⟩
abbrev cX7_quick : ByteArray := prog_1_method_14_code
def yX7_quick : MethodName := ⟨RX7, "quick", "(II)I"⟩
abbrev cX7_all : ByteArray := prog_1_method_15_code
def yX7_all : MethodName := ⟨RX7, "all", "(I)I"⟩
abbrev cX7_near : ByteArray := prog_1_method_16_code
def yX7_near : MethodName := ⟨RX7, "near", "(III)I"⟩
abbrev cX7_cost : ByteArray := prog_1_method_17_code
def yX7_cost : MethodName := ⟨RX7, "cost", "(III)I"⟩
abbrev cX7_lose : ByteArray := prog_1_method_18_code
def yX7_lose : MethodName := ⟨RX7, "lose", "(II)I"⟩
abbrev cX7_widen : ByteArray := prog_1_method_19_code
def yX7_widen : MethodName := ⟨RX7, "widen", "(II)I"⟩
abbrev cX7_held : ByteArray := prog_1_method_20_code
def yX7_held : MethodName := ⟨RX7, "held", "(III)I"⟩
abbrev cX7_begin : ByteArray := prog_1_method_21_code
def yX7_begin : MethodName := ⟨RX7, "begin", "(II)I"⟩
abbrev cX7_kind : ByteArray := prog_1_method_22_code
def yX7_kind : MethodName := ⟨RX7, "kind", "(III)I"⟩
abbrev cX7_goal : ByteArray := prog_1_method_23_code
def yX7_goal : MethodName := ⟨RX7, "goal", "(I)I"⟩
abbrev cX7_steady : ByteArray := prog_1_method_24_code
def yX7_steady : MethodName := ⟨RX7, "steady", "(III)I"⟩
abbrev cX7_rate : ByteArray := prog_1_method_25_code
def yX7_rate : MethodName := ⟨RX7, "rate", "(II)I"⟩
abbrev cX7_gain : ByteArray := prog_1_method_26_code
def yX7_gain : MethodName := ⟨RX7, "gain", "(III)I"⟩
abbrev cX7_reach : ByteArray := prog_1_method_27_code
def yX7_reach : MethodName := ⟨RX7, "reach", "(III)I"⟩
abbrev cX7_feed : ByteArray := prog_1_method_28_code
def yX7_feed : MethodName := ⟨RX7, "feed", "(II)I"⟩
abbrev cX7_wipe : ByteArray := prog_1_method_29_code
def yX7_wipe : MethodName := ⟨RX7, "wipe", "()I"⟩
abbrev cX7_text : ByteArray := prog_1_method_30_code
def yX7_text : MethodName := ⟨RX7, "text", "()I"⟩
abbrev cX7_sheet : ByteArray := prog_1_method_31_code
def yX7_sheet : MethodName := ⟨RX7, "sheet", "(III)I"⟩
abbrev cX7_write : ByteArray := prog_1_method_32_code
def yX7_write : MethodName := ⟨RX7, "write", "(IIJ)J"⟩
abbrev cX7_copy : ByteArray := prog_1_method_33_code
def yX7_copy : MethodName := ⟨RX7, "copy", "(IIIII)I"⟩
abbrev cX7_lays : ByteArray := prog_1_method_34_code
def yX7_lays : MethodName := ⟨RX7, "lays", "(I)I"⟩
abbrev cX7_book : ByteArray := prog_1_method_35_code
def yX7_book : MethodName := ⟨RX7, "book", "(II)I"⟩
abbrev cX7_replay : ByteArray := prog_1_method_36_code
def yX7_replay : MethodName := ⟨RX7, "replay", "(III)I"⟩
abbrev cX7_run : ByteArray := prog_1_method_37_code
def yX7_run : MethodName := ⟨RX7, "run", "(III)I"⟩
abbrev cX7_image : ByteArray := prog_1_method_38_code
def yX7_image : MethodName := ⟨RX7, "image", "()I"⟩
abbrev cX7_undo : ByteArray := prog_1_method_39_code
def yX7_undo : MethodName := ⟨RX7, "undo", "()I"⟩
abbrev cX7_tear : ByteArray := prog_1_method_40_code
def yX7_tear : MethodName := ⟨RX7, "tear", "()I"⟩
abbrev cX7_count : ByteArray := prog_1_method_41_code
def yX7_count : MethodName := ⟨RX7, "count", "(I)I"⟩
abbrev cX7_status : ByteArray := prog_1_method_42_code
def yX7_status : MethodName := ⟨RX7, "status", "(I)I"⟩
abbrev cX7_found : ByteArray := prog_1_method_43_code
def yX7_found : MethodName := ⟨RX7, "found", "(I)I"⟩
abbrev cX7_isIn : ByteArray := prog_1_method_44_code
def yX7_isIn : MethodName := ⟨RX7, "isIn", "(III)Z"⟩
abbrev cX7_isUnder : ByteArray := prog_1_method_45_code
def yX7_isUnder : MethodName := ⟨RX7, "isUnder", "([III)Z"⟩
abbrev cX7_isAsked : ByteArray := prog_1_method_46_code
def yX7_isAsked : MethodName := ⟨RX7, "isAsked", "(II)Z"⟩
abbrev cX7_sheetFault : ByteArray := prog_1_method_47_code
def yX7_sheetFault : MethodName := ⟨RX7, "sheetFault", "(I)I"⟩
abbrev cX7_planFault : ByteArray := prog_1_method_48_code
def yX7_planFault : MethodName := ⟨RX7, "planFault", "(III)I"⟩
abbrev cX7_follow : ByteArray := prog_1_method_49_code
def yX7_follow : MethodName := ⟨RX7, "follow", "(III)I"⟩
abbrev cX7_mostIn : ByteArray := prog_1_method_50_code
def yX7_mostIn : MethodName := ⟨RX7, "mostIn", "(LGoodsUnderWay$World;II)I"⟩
abbrev cX7_mostHeld : ByteArray := prog_1_method_51_code
def yX7_mostHeld : MethodName := ⟨RX7, "mostHeld", "(IIII)I"⟩
abbrev cX7_mostWidened : ByteArray := prog_1_method_52_code
def yX7_mostWidened : MethodName := ⟨RX7, "mostWidened", "(III)I"⟩
abbrev cX7_ticksUntil : ByteArray := prog_1_method_53_code
def yX7_ticksUntil : MethodName := ⟨RX7, "ticksUntil", "(II)I"⟩
def RX8 : String := "GoodsUnderWayModel"
def TX8 : u_T := fun k => match k with
  | 0 => ("GoodsUnderWayModel", "found", "[I", true)
  | 1 => ("GoodsUnderWayModel", "tick", "I", false)
  | 2 => ("GoodsUnderWayModel", "lost", "I", false)
  | 3 => ("GoodsUnderWayModel", "stations", "I", false)
  | 4 => ("GoodsUnderWayModel", "sort", "[I", true)
  | 5 => ("GoodsUnderWayModel", "stock", "[I", true)
  | 6 => ("GoodsUnderWayModel", "store", "[I", true)
  | 7 => ("GoodsUnderWayModel", "lines", "I", false)
  | 8 => ("GoodsUnderWayModel", "line", "[I", true)
  | 9 => ("GoodsUnderWayModel", "sent", "[I", true)
  | 10 => ("GoodsUnderWayModel", "way", "[I", true)
  | 11 => ("GoodsUnderWayModel", "roomAt", "[I", true)
  | 12 => ("GoodsUnderWayModel", "holdAt", "[I", true)
  | 13 => ("GoodsUnderWayModel", "comes", "[I", true)
  | 14 => ("GoodsUnderWayModel", "used", "[I", true)
  | 15 => ("GoodsUnderWayModel", "stays", "[I", true)
  | 16 => ("GoodsUnderWayModel", "goes", "[I", true)
  | 17 => ("GoodsUnderWayModel", "lasts", "[I", true)
  | 18 => ("GoodsUnderWayModel", "by", "[I", true)
  | 19 => ("GoodsUnderWayModel", "queue", "[I", true)
  | 20 => ("GoodsUnderWayModel", "queued", "I", false)
  | 21 => ("GoodsUnderWayModel", "flow", "[I", true)
  | 22 => ("GoodsUnderWayModel", "apart", "[I", true)
  | 23 => ("GoodsUnderWayModel", "came", "[I", true)
  | 24 => ("GoodsUnderWayModel", "gains", "[I", true)
  | 25 => ("GoodsUnderWayModel", "tape", "[I", true)
  | 26 => ("GoodsUnderWayModel", "taped", "I", false)
  | 27 => ("GoodsUnderWayModel", "read", "I", false)
  | 28 => ("GoodsUnderWayModel", "began", "I", false)
  | 29 => ("GoodsUnderWayModel", "token", "I", false)
  | 30 => ("GoodsUnderWayModel", "told", "I", false)
  | 31 => ("GoodsUnderWayModel", "words", "[C", true)
  | 32 => ("GoodsUnderWayModel", "last", "I", false)
  | 33 => ("GoodsUnderWayModel", "bitsOf", "[I", true)
  | 34 => ("GoodsUnderWayModel", "sizeOf", "[I", true)
  | 35 => ("GoodsUnderWayModel", "number", "[J", true)
  | 36 => ("GoodsUnderWayModel", "lifted", "[J", true)
  | 37 => ("GoodsUnderWayModel", "kept", "[I", true)
  | 38 => ("GoodsUnderWayModel", "aside", "[I", true)
  | _ => ("GoodsUnderWayModel", "isKept", "Z", false)
def tyX8 : Nat → FieldType := fun k => match k with
  | 0 => .array .int
  | 1 => .int
  | 2 => .int
  | 3 => .int
  | 4 => .array .int
  | 5 => .array .int
  | 6 => .array .int
  | 7 => .int
  | 8 => .array .int
  | 9 => .array .int
  | 10 => .array .int
  | 11 => .array .int
  | 12 => .array .int
  | 13 => .array .int
  | 14 => .array .int
  | 15 => .array .int
  | 16 => .array .int
  | 17 => .array .int
  | 18 => .array .int
  | 19 => .array .int
  | 20 => .int
  | 21 => .array .int
  | 22 => .array .int
  | 23 => .array .int
  | 24 => .array .int
  | 25 => .array .int
  | 26 => .int
  | 27 => .int
  | 28 => .int
  | 29 => .int
  | 30 => .int
  | 31 => .array .char
  | 32 => .int
  | 33 => .array .int
  | 34 => .array .int
  | 35 => .array .long
  | 36 => .array .long
  | 37 => .array .int
  | 38 => .array .int
  | _ => .boolean
abbrev wsX80 : List Cond := u_ws RX8 TX8 40
theorem nmX8 : ∀ a, a < 40 → ∀ b, b < 40 → a ≠ b → (TX8 a).2.1 ≠ (TX8 b).2.1 := by decide +kernel
theorem tyX8_ok : ∀ k, k < 40 → parseFieldDescriptor (TX8 k).2.2.1 = some (tyX8 k) := by decide +kernel
abbrev cX8_init : ByteArray := prog_10_method_1_code
def yX8_init : MethodName := ⟨RX8, "<init>", "()V"⟩
abbrev cX8_in : ByteArray := prog_10_method_3_code
def yX8_in : MethodName := ⟨RX8, "in", "(JJJ)Z"⟩
abbrev cX8_finds : ByteArray := prog_10_method_4_code
def yX8_finds : MethodName := ⟨RX8, "finds", "(I)I"⟩
abbrev cX8_at : ByteArray := prog_10_method_5_code
def yX8_at : MethodName := ⟨RX8, "at", "(II)I"⟩
abbrev cX8_isStation : ByteArray := prog_10_method_6_code
def yX8_isStation : MethodName := ⟨RX8, "isStation", "(I)Z"⟩
abbrev cX8_isLine : ByteArray := prog_10_method_7_code
def yX8_isLine : MethodName := ⟨RX8, "isLine", "(I)Z"⟩
abbrev cX8_holds : ByteArray := prog_10_method_8_code
def yX8_holds : MethodName := ⟨RX8, "holds", "(II)I"⟩
abbrev cX8_roomBy : ByteArray := prog_10_method_9_code
def yX8_roomBy : MethodName := ⟨RX8, "roomBy", "(III)I"⟩
abbrev cX8_room : ByteArray := prog_10_method_10_code
def yX8_room : MethodName := ⟨RX8, "room", "(II)I"⟩
abbrev cX8_takes : ByteArray := prog_10_method_11_code
def yX8_takes : MethodName := ⟨RX8, "takes", "(I)I"⟩
abbrev cX8_onWay : ByteArray := prog_10_method_12_code
def yX8_onWay : MethodName := ⟨RX8, "onWay", "(I)I"⟩
abbrev cX8_sumOf : ByteArray := prog_10_method_13_code
def yX8_sumOf : MethodName := ⟨RX8, "sumOf", "([II)I"⟩
abbrev cX8_allOnWay : ByteArray := prog_10_method_14_code
def yX8_allOnWay : MethodName := ⟨RX8, "allOnWay", "()I"⟩
abbrev cX8_goods : ByteArray := prog_10_method_15_code
def yX8_goods : MethodName := ⟨RX8, "goods", "()I"⟩
abbrev cX8_addStation : ByteArray := prog_10_method_16_code
def yX8_addStation : MethodName := ⟨RX8, "addStation", "(III)V"⟩
abbrev cX8_addLine : ByteArray := prog_10_method_17_code
def yX8_addLine : MethodName := ⟨RX8, "addLine", "(III)V"⟩
abbrev cX8_station : ByteArray := prog_10_method_18_code
def yX8_station : MethodName := ⟨RX8, "station", "(II)I"⟩
abbrev cX8_line : ByteArray := prog_10_method_19_code
def yX8_line : MethodName := ⟨RX8, "line", "(IIIII)I"⟩
abbrev cX8_comesTo : ByteArray := prog_10_method_20_code
def yX8_comesTo : MethodName := ⟨RX8, "comesTo", "(I)I"⟩
abbrev cX8_of : ByteArray := prog_10_method_21_code
def yX8_of : MethodName := ⟨RX8, "of", "(II)I"⟩
abbrev cX8_its : ByteArray := prog_10_method_22_code
def yX8_its : MethodName := ⟨RX8, "its", "(II)I"⟩
abbrev cX8_set : ByteArray := prog_10_method_23_code
def yX8_set : MethodName := ⟨RX8, "set", "(III)I"⟩
abbrev cX8_mayBe : ByteArray := prog_10_method_24_code
def yX8_mayBe : MethodName := ⟨RX8, "mayBe", "(III)Z"⟩
abbrev cX8_change : ByteArray := prog_10_method_25_code
def yX8_change : MethodName := ⟨RX8, "change", "(III)I"⟩
abbrev cX8_as : ByteArray := prog_10_method_26_code
def yX8_as : MethodName := ⟨RX8, "as", "(II)I"⟩
abbrev cX8_stands : ByteArray := prog_10_method_27_code
def yX8_stands : MethodName := ⟨RX8, "stands", "(II)I"⟩
abbrev cX8_canSend : ByteArray := prog_10_method_28_code
def yX8_canSend : MethodName := ⟨RX8, "canSend", "(IJ)Z"⟩
abbrev cX8_sends : ByteArray := prog_10_method_29_code
def yX8_sends : MethodName := ⟨RX8, "sends", "(II)V"⟩
abbrev cX8_send : ByteArray := prog_10_method_30_code
def yX8_send : MethodName := ⟨RX8, "send", "(II)I"⟩
abbrev cX8_oneTick : ByteArray := prog_10_method_31_code
def yX8_oneTick : MethodName := ⟨RX8, "oneTick", "()V"⟩
abbrev cX8_go : ByteArray := prog_10_method_32_code
def yX8_go : MethodName := ⟨RX8, "go", "(I)I"⟩
abbrev cX8_roomOfAll : ByteArray := prog_10_method_33_code
def yX8_roomOfAll : MethodName := ⟨RX8, "roomOfAll", "()I"⟩
abbrev cX8_losing : ByteArray := prog_10_method_34_code
def yX8_losing : MethodName := ⟨RX8, "losing", "()I"⟩
abbrev cX8_openLines : ByteArray := prog_10_method_35_code
def yX8_openLines : MethodName := ⟨RX8, "openLines", "()I"⟩
abbrev cX8_now : ByteArray := prog_10_method_36_code
def yX8_now : MethodName := ⟨RX8, "now", "(I)I"⟩
abbrev cX8_layOut : ByteArray := prog_10_method_37_code
def yX8_layOut : MethodName := ⟨RX8, "layOut", "(IIII)V"⟩
abbrev cX8_meets : ByteArray := prog_10_method_38_code
def yX8_meets : MethodName := ⟨RX8, "meets", "(II)V"⟩
abbrev cX8_searches : ByteArray := prog_10_method_39_code
def yX8_searches : MethodName := ⟨RX8, "searches", "(II)I"⟩
abbrev cX8_spreads : ByteArray := prog_10_method_40_code
def yX8_spreads : MethodName := ⟨RX8, "spreads", "(III)I"⟩
abbrev cX8_behind : ByteArray := prog_10_method_41_code
def yX8_behind : MethodName := ⟨RX8, "behind", "(I)I"⟩
abbrev cX8_leftFor : ByteArray := prog_10_method_42_code
def yX8_leftFor : MethodName := ⟨RX8, "leftFor", "(II)I"⟩
abbrev cX8_moves : ByteArray := prog_10_method_43_code
def yX8_moves : MethodName := ⟨RX8, "moves", "(III)V"⟩
abbrev cX8_brings : ByteArray := prog_10_method_44_code
def yX8_brings : MethodName := ⟨RX8, "brings", "(II)I"⟩
abbrev cX8_ownTill : ByteArray := prog_10_method_45_code
def yX8_ownTill : MethodName := ⟨RX8, "ownTill", "(II)I"⟩
abbrev cX8_mostBy : ByteArray := prog_10_method_46_code
def yX8_mostBy : MethodName := ⟨RX8, "mostBy", "(IIIIII)I"⟩
abbrev cX8_mostOf : ByteArray := prog_10_method_47_code
def yX8_mostOf : MethodName := ⟨RX8, "mostOf", "(II)I"⟩
abbrev cX8_isAhead : ByteArray := prog_10_method_48_code
def yX8_isAhead : MethodName := ⟨RX8, "isAhead", "(I)Z"⟩
abbrev cX8_most : ByteArray := prog_10_method_49_code
def yX8_most : MethodName := ⟨RX8, "most", "(II)I"⟩
abbrev cX8_quickOf : ByteArray := prog_10_method_50_code
def yX8_quickOf : MethodName := ⟨RX8, "quickOf", "(II)I"⟩
abbrev cX8_quick : ByteArray := prog_10_method_51_code
def yX8_quick : MethodName := ⟨RX8, "quick", "(II)I"⟩
abbrev cX8_all : ByteArray := prog_10_method_52_code
def yX8_all : MethodName := ⟨RX8, "all", "(I)I"⟩
abbrev cX8_near : ByteArray := prog_10_method_53_code
def yX8_near : MethodName := ⟨RX8, "near", "(III)I"⟩
abbrev cX8_cost : ByteArray := prog_10_method_54_code
def yX8_cost : MethodName := ⟨RX8, "cost", "(III)I"⟩
abbrev cX8_lose : ByteArray := prog_10_method_55_code
def yX8_lose : MethodName := ⟨RX8, "lose", "(II)I"⟩
abbrev cX8_widen : ByteArray := prog_10_method_56_code
def yX8_widen : MethodName := ⟨RX8, "widen", "(II)I"⟩
abbrev cX8_held : ByteArray := prog_10_method_57_code
def yX8_held : MethodName := ⟨RX8, "held", "(III)I"⟩
abbrev cX8_begin : ByteArray := prog_10_method_58_code
def yX8_begin : MethodName := ⟨RX8, "begin", "(II)I"⟩
abbrev cX8_kind : ByteArray := prog_10_method_59_code
def yX8_kind : MethodName := ⟨RX8, "kind", "(III)I"⟩
abbrev cX8_goal : ByteArray := prog_10_method_60_code
def yX8_goal : MethodName := ⟨RX8, "goal", "(I)I"⟩
abbrev cX8_nearer : ByteArray := prog_10_method_61_code
def yX8_nearer : MethodName := ⟨RX8, "nearer", "(IIII)Z"⟩
abbrev cX8_measures : ByteArray := prog_10_method_62_code
def yX8_measures : MethodName := ⟨RX8, "measures", "(I)V"⟩
abbrev cX8_stepBack : ByteArray := prog_10_method_63_code
def yX8_stepBack : MethodName := ⟨RX8, "stepBack", "(I)I"⟩
abbrev cX8_findsGains : ByteArray := prog_10_method_64_code
def yX8_findsGains : MethodName := ⟨RX8, "findsGains", "(II)V"⟩
abbrev cX8_steadyBehind : ByteArray := prog_10_method_65_code
def yX8_steadyBehind : MethodName := ⟨RX8, "steadyBehind", "(J)J"⟩
abbrev cX8_areTwo : ByteArray := prog_10_method_66_code
def yX8_areTwo : MethodName := ⟨RX8, "areTwo", "(II)Z"⟩
abbrev cX8_steady : ByteArray := prog_10_method_67_code
def yX8_steady : MethodName := ⟨RX8, "steady", "(III)I"⟩
abbrev cX8_rate : ByteArray := prog_10_method_68_code
def yX8_rate : MethodName := ⟨RX8, "rate", "(II)I"⟩
abbrev cX8_gain : ByteArray := prog_10_method_69_code
def yX8_gain : MethodName := ⟨RX8, "gain", "(III)I"⟩
abbrev cX8_reach : ByteArray := prog_10_method_70_code
def yX8_reach : MethodName := ⟨RX8, "reach", "(III)I"⟩
abbrev cX8_feed : ByteArray := prog_10_method_71_code
def yX8_feed : MethodName := ⟨RX8, "feed", "(II)I"⟩
abbrev cX8_wipe : ByteArray := prog_10_method_72_code
def yX8_wipe : MethodName := ⟨RX8, "wipe", "()I"⟩
abbrev cX8_byteAt : ByteArray := prog_10_method_73_code
def yX8_byteAt : MethodName := ⟨RX8, "byteAt", "(I)I"⟩
abbrev cX8_isWordFrom : ByteArray := prog_10_method_74_code
def yX8_isWordFrom : MethodName := ⟨RX8, "isWordFrom", "(I)Z"⟩
abbrev cX8_next : ByteArray := prog_10_method_75_code
def yX8_next : MethodName := ⟨RX8, "next", "()V"⟩
abbrev cX8_isWord : ByteArray := prog_10_method_76_code
def yX8_isWord : MethodName := ⟨RX8, "isWord", "(I)Z"⟩
abbrev cX8_takesNumber : ByteArray := prog_10_method_77_code
def yX8_takesNumber : MethodName := ⟨RX8, "takesNumber", "(II)Z"⟩
abbrev cX8_perhaps : ByteArray := prog_10_method_78_code
def yX8_perhaps : MethodName := ⟨RX8, "perhaps", "(IIII)Z"⟩
abbrev cX8_readsStation : ByteArray := prog_10_method_79_code
def yX8_readsStation : MethodName := ⟨RX8, "readsStation", "(I)Z"⟩
abbrev cX8_readsLine : ByteArray := prog_10_method_80_code
def yX8_readsLine : MethodName := ⟨RX8, "readsLine", "(I)Z"⟩
abbrev cX8_readsItem : ByteArray := prog_10_method_81_code
def yX8_readsItem : MethodName := ⟨RX8, "readsItem", "()Z"⟩
abbrev cX8_text : ByteArray := prog_10_method_82_code
def yX8_text : MethodName := ⟨RX8, "text", "()I"⟩
abbrev cX8_isSheet : ByteArray := prog_10_method_83_code
def yX8_isSheet : MethodName := ⟨RX8, "isSheet", "(I)Z"⟩
abbrev cX8_narrow : ByteArray := prog_10_method_84_code
def yX8_narrow : MethodName := ⟨RX8, "narrow", "(IJ)J"⟩
abbrev cX8_sheet : ByteArray := prog_10_method_85_code
def yX8_sheet : MethodName := ⟨RX8, "sheet", "(III)I"⟩
abbrev cX8_write : ByteArray := prog_10_method_86_code
def yX8_write : MethodName := ⟨RX8, "write", "(IIJ)J"⟩
abbrev cX8_copy : ByteArray := prog_10_method_87_code
def yX8_copy : MethodName := ⟨RX8, "copy", "(IIIII)I"⟩
abbrev cX8_lays : ByteArray := prog_10_method_88_code
def yX8_lays : MethodName := ⟨RX8, "lays", "(I)I"⟩
abbrev cX8_book : ByteArray := prog_10_method_89_code
def yX8_book : MethodName := ⟨RX8, "book", "(II)I"⟩
abbrev cX8_sendsAll : ByteArray := prog_10_method_90_code
def yX8_sendsAll : MethodName := ⟨RX8, "sendsAll", "(II)I"⟩
abbrev cX8_goesBy : ByteArray := prog_10_method_91_code
def yX8_goesBy : MethodName := ⟨RX8, "goesBy", "(II)I"⟩
abbrev cX8_plans : ByteArray := prog_10_method_92_code
def yX8_plans : MethodName := ⟨RX8, "plans", "(IIIZ)I"⟩
abbrev cX8_replay : ByteArray := prog_10_method_93_code
def yX8_replay : MethodName := ⟨RX8, "replay", "(III)I"⟩
abbrev cX8_run : ByteArray := prog_10_method_94_code
def yX8_run : MethodName := ⟨RX8, "run", "(III)I"⟩
abbrev cX8_puts : ByteArray := prog_10_method_95_code
def yX8_puts : MethodName := ⟨RX8, "puts", "([II[I)I"⟩
abbrev cX8_gets : ByteArray := prog_10_method_96_code
def yX8_gets : MethodName := ⟨RX8, "gets", "([II[I)I"⟩
abbrev cX8_keeps : ByteArray := prog_10_method_97_code
def yX8_keeps : MethodName := ⟨RX8, "keeps", "([I)V"⟩
abbrev cX8_comesBack : ByteArray := prog_10_method_98_code
def yX8_comesBack : MethodName := ⟨RX8, "comesBack", "([I)V"⟩
abbrev cX8_image : ByteArray := prog_10_method_99_code
def yX8_image : MethodName := ⟨RX8, "image", "()I"⟩
abbrev cX8_undo : ByteArray := prog_10_method_100_code
def yX8_undo : MethodName := ⟨RX8, "undo", "()I"⟩
abbrev cX8_tear : ByteArray := prog_10_method_101_code
def yX8_tear : MethodName := ⟨RX8, "tear", "()I"⟩
abbrev cX8_count : ByteArray := prog_10_method_102_code
def yX8_count : MethodName := ⟨RX8, "count", "(I)I"⟩
abbrev cX8_status : ByteArray := prog_10_method_103_code
def yX8_status : MethodName := ⟨RX8, "status", "(I)I"⟩
def RJx145de : String := "java/io/Serializable"
def TJx145de : u_T := fun k => match k with
  | _ => ("", "", "", false)
def tyJx145de : Nat → FieldType := fun k => match k with
  | _ => .int
abbrev wsJx145de0 : List Cond := u_ws RJx145de TJx145de 0
theorem nmJx145de : ∀ a, a < 0 → ∀ b, b < 0 → a ≠ b → (TJx145de a).2.1 ≠ (TJx145de b).2.1 := by decide +kernel
theorem tyJx145de_ok : ∀ k, k < 0 → parseFieldDescriptor (TJx145de k).2.2.1 = some (tyJx145de k) := by decide +kernel
def RJx9f9b0 : String := "java/lang/CharSequence"
def TJx9f9b0 : u_T := fun k => match k with
  | _ => ("", "", "", false)
def tyJx9f9b0 : Nat → FieldType := fun k => match k with
  | _ => .int
abbrev wsJx9f9b00 : List Cond := u_ws RJx9f9b0 TJx9f9b0 0
theorem nmJx9f9b0 : ∀ a, a < 0 → ∀ b, b < 0 → a ≠ b → (TJx9f9b0 a).2.1 ≠ (TJx9f9b0 b).2.1 := by decide +kernel
theorem tyJx9f9b0_ok : ∀ k, k < 0 → parseFieldDescriptor (TJx9f9b0 k).2.2.1 = some (tyJx9f9b0 k) := by decide +kernel
def RJxb160c : String := "java/lang/Comparable"
def TJxb160c : u_T := fun k => match k with
  | _ => ("", "", "", false)
def tyJxb160c : Nat → FieldType := fun k => match k with
  | _ => .int
abbrev wsJxb160c0 : List Cond := u_ws RJxb160c TJxb160c 0
theorem nmJxb160c : ∀ a, a < 0 → ∀ b, b < 0 → a ≠ b → (TJxb160c a).2.1 ≠ (TJxb160c b).2.1 := by decide +kernel
theorem tyJxb160c_ok : ∀ k, k < 0 → parseFieldDescriptor (TJxb160c k).2.2.1 = some (tyJxb160c k) := by decide +kernel
def RJ9 : String := "java/lang/Math"
def TJ9 : u_T := fun k => match k with
  | _ => ("", "", "", false)
def tyJ9 : Nat → FieldType := fun k => match k with
  | _ => .int
abbrev wsJ90 : List Cond := u_ws RJ9 TJ9 0
theorem nmJ9 : ∀ a, a < 0 → ∀ b, b < 0 → a ≠ b → (TJ9 a).2.1 ≠ (TJ9 b).2.1 := by decide +kernel
theorem tyJ9_ok : ∀ k, k < 0 → parseFieldDescriptor (TJ9 k).2.2.1 = some (tyJ9 k) := by decide +kernel
abbrev cJ9_max_7cf53 : ByteArray := prog_11_method_65_code
def yJ9_max_7cf53 : MethodName := ⟨RJ9, "max", "(II)I"⟩
abbrev cJ9_min_7cf53 : ByteArray := prog_11_method_69_code
def yJ9_min_7cf53 : MethodName := ⟨RJ9, "min", "(II)I"⟩
def RJ0 : String := "java/lang/String"
def TJ0 : u_T := fun k => match k with
  | _ => ("", "", "", false)
def tyJ0 : Nat → FieldType := fun k => match k with
  | _ => .int
abbrev wsJ00 : List Cond := u_ws RJ0 TJ0 0
theorem nmJ0 : ∀ a, a < 0 → ∀ b, b < 0 → a ≠ b → (TJ0 a).2.1 ≠ (TJ0 b).2.1 := by decide +kernel
theorem tyJ0_ok : ∀ k, k < 0 → parseFieldDescriptor (TJ0 k).2.2.1 = some (tyJ0 k) := by decide +kernel
abbrev cJ0_length_8abf5 : ByteArray := prog_12_method_54_code
def yJ0_length_8abf5 : MethodName := ⟨RJ0, "length", "()I"⟩
abbrev cJ0_charAt_5068e : ByteArray := prog_12_method_56_code
def yJ0_charAt_5068e : MethodName := ⟨RJ0, "charAt", "(I)C"⟩
abbrev cJ0_coder_7d493 : ByteArray := prog_12_method_152_code
def yJ0_coder_7d493 : MethodName := ⟨RJ0, "coder", "()B"⟩
abbrev cJ0_isLatin1_aae02 : ByteArray := prog_12_method_154_code
def yJ0_isLatin1_aae02 : MethodName := ⟨RJ0, "isLatin1", "()Z"⟩
abbrev cJ0_checkIndex_df160 : ByteArray := prog_12_method_155_code
def yJ0_checkIndex_df160 : MethodName := ⟨RJ0, "checkIndex", "(II)V"⟩
def RJ1 : String := "java/lang/StringLatin1"
def TJ1 : u_T := fun k => match k with
  | _ => ("", "", "", false)
def tyJ1 : Nat → FieldType := fun k => match k with
  | _ => .int
abbrev wsJ10 : List Cond := u_ws RJ1 TJ1 0
theorem nmJ1 : ∀ a, a < 0 → ∀ b, b < 0 → a ≠ b → (TJ1 a).2.1 ≠ (TJ1 b).2.1 := by decide +kernel
theorem tyJ1_ok : ∀ k, k < 0 → parseFieldDescriptor (TJ1 k).2.2.1 = some (tyJ1 k) := by decide +kernel
abbrev cJ1_charAt_3b067 : ByteArray := prog_13_method_2_code
def yJ1_charAt_3b067 : MethodName := ⟨RJ1, "charAt", "([BI)C"⟩
def RJ2 : String := "java/lang/StringUTF16"
def TJ2 : u_T := fun k => match k with
  | _ => ("", "", "", false)
def tyJ2 : Nat → FieldType := fun k => match k with
  | _ => .int
abbrev wsJ20 : List Cond := u_ws RJ2 TJ2 0
theorem nmJ2 : ∀ a, a < 0 → ∀ b, b < 0 → a ≠ b → (TJ2 a).2.1 ≠ (TJ2 b).2.1 := by decide +kernel
theorem tyJ2_ok : ∀ k, k < 0 → parseFieldDescriptor (TJ2 k).2.2.1 = some (tyJ2 k) := by decide +kernel
abbrev cJ2_getChar_3b067 : ByteArray := prog_14_method_5_code
def yJ2_getChar_3b067 : MethodName := ⟨RJ2, "getChar", "([BI)C"⟩
abbrev cJ2_length_9d52b : ByteArray := prog_14_method_6_code
def yJ2_length_9d52b : MethodName := ⟨RJ2, "length", "([B)I"⟩
abbrev cJ2_charAt_3b067 : ByteArray := prog_14_method_83_code
def yJ2_charAt_3b067 : MethodName := ⟨RJ2, "charAt", "([BI)C"⟩
abbrev cJ2_checkIndex_2214a : ByteArray := prog_14_method_91_code
def yJ2_checkIndex_2214a : MethodName := ⟨RJ2, "checkIndex", "(I[B)V"⟩
def RJ10 : String := "java/lang/System"
def TJ10 : u_T := fun k => match k with
  | _ => ("", "", "", false)
def tyJ10 : Nat → FieldType := fun k => match k with
  | _ => .int
abbrev wsJ100 : List Cond := u_ws RJ10 TJ10 0
theorem nmJ10 : ∀ a, a < 0 → ∀ b, b < 0 → a ≠ b → (TJ10 a).2.1 ≠ (TJ10 b).2.1 := by decide +kernel
theorem tyJ10_ok : ∀ k, k < 0 → parseFieldDescriptor (TJ10 k).2.2.1 = some (tyJ10 k) := by decide +kernel
def RJxfd54e : String := "java/lang/constant/Constable"
def TJxfd54e : u_T := fun k => match k with
  | _ => ("", "", "", false)
def tyJxfd54e : Nat → FieldType := fun k => match k with
  | _ => .int
abbrev wsJxfd54e0 : List Cond := u_ws RJxfd54e TJxfd54e 0
theorem nmJxfd54e : ∀ a, a < 0 → ∀ b, b < 0 → a ≠ b → (TJxfd54e a).2.1 ≠ (TJxfd54e b).2.1 := by decide +kernel
theorem tyJxfd54e_ok : ∀ k, k < 0 → parseFieldDescriptor (TJxfd54e k).2.2.1 = some (tyJxfd54e k) := by decide +kernel
def RJx3cf43 : String := "java/lang/constant/ConstantDesc"
def TJx3cf43 : u_T := fun k => match k with
  | _ => ("", "", "", false)
def tyJx3cf43 : Nat → FieldType := fun k => match k with
  | _ => .int
abbrev wsJx3cf430 : List Cond := u_ws RJx3cf43 TJx3cf43 0
theorem nmJx3cf43 : ∀ a, a < 0 → ∀ b, b < 0 → a ≠ b → (TJx3cf43 a).2.1 ≠ (TJx3cf43 b).2.1 := by decide +kernel
theorem tyJx3cf43_ok : ∀ k, k < 0 → parseFieldDescriptor (TJx3cf43 k).2.2.1 = some (tyJx3cf43 k) := by decide +kernel
def RJ7 : String := "java/util/Arrays"
def TJ7 : u_T := fun k => match k with
  | _ => ("", "", "", false)
def tyJ7 : Nat → FieldType := fun k => match k with
  | _ => .int
abbrev wsJ70 : List Cond := u_ws RJ7 TJ7 0
theorem nmJ7 : ∀ a, a < 0 → ∀ b, b < 0 → a ≠ b → (TJ7 a).2.1 ≠ (TJ7 b).2.1 := by decide +kernel
theorem tyJ7_ok : ∀ k, k < 0 → parseFieldDescriptor (TJ7 k).2.2.1 = some (tyJ7 k) := by decide +kernel
abbrev cJ7_fill_d0a16 : ByteArray := prog_16_method_101_code
def yJ7_fill_d0a16 : MethodName := ⟨RJ7, "fill", "([JJ)V"⟩
abbrev cJ7_fill_53178 : ByteArray := prog_16_method_103_code
def yJ7_fill_53178 : MethodName := ⟨RJ7, "fill", "([II)V"⟩
def RJ3 : String := "jdk/internal/util/Preconditions"
def TJ3 : u_T := fun k => match k with
  | _ => ("", "", "", false)
def tyJ3 : Nat → FieldType := fun k => match k with
  | _ => .int
abbrev wsJ30 : List Cond := u_ws RJ3 TJ3 0
theorem nmJ3 : ∀ a, a < 0 → ∀ b, b < 0 → a ≠ b → (TJ3 a).2.1 ≠ (TJ3 b).2.1 := by decide +kernel
theorem tyJ3_ok : ∀ k, k < 0 → parseFieldDescriptor (TJ3 k).2.2.1 = some (tyJ3 k) := by decide +kernel
abbrev cJ3_checkIndex_8e157 : ByteArray := prog_17_method_11_code
def yJ3_checkIndex_8e157 : MethodName := ⟨RJ3, "checkIndex", "(IILjava/util/function/BiFunction;)I"⟩
def RL : String := "GoodsUnderWayLaw"
abbrev cL_law : ByteArray := code
def yL_law : MethodName := ⟨RL, "law", "([I)Z"⟩
abbrev vwCl : List vw_C := [(RX0, TX0, 10), (RX1, TX1, 17), (RX2, TX2, 3), (RX3, TX3, 3), (RX4, TX4, 7), (RX5, TX5, 7), (RX6, TX6, 6), (RX7, TX7, 9), (RX8, TX8, 40)]
end
section
/-! THE SMALL MACHINE'S HEAP: cells by number; gi, gl: numbers in cells; gw: the two references that change (the worlds that the network and the stream look at) -/
def lwg : List Cond := lw_tbl.filter goodWord
theorem lwg_of {w : Cond} (i : Nat) (h : lw_tbl[i]? = some w) (hg : goodWord w = true) : w ∈ lwg := List.mem_filter.mpr ⟨List.mem_of_getElem? h, hg⟩
theorem lwg_good {ws : List Cond} (h : ∀ w ∈ ws, w ∈ lwg) : GoodIn lwg ws := fun w hw => ⟨h w hw, good_of_word (List.mem_filter.mp (h w hw)).2⟩
abbrev HP : Type := (Nat → Nat → Int32) × (Nat → Nat → Int64) × (Nat → Nat)
def gi (h : HP) (a k : Nat) : Int32 := h.1 a k
def gl (h : HP) (a k : Nat) : Int64 := h.2.1 a k
def gw (h : HP) (k : Nat) : Nat := h.2.2 k
def si (h : HP) (a k : Nat) (v : Int32) : HP := (fun x j => if x = a ∧ j = k then v else h.1 x j, h.2.1, h.2.2)
def sl (h : HP) (a k : Nat) (v : Int64) : HP := (h.1, fun x j => if x = a ∧ j = k then v else h.2.1 x j, h.2.2)
def sw (h : HP) (k v : Nat) : HP := (h.1, h.2.1, fun j => if j = k then v else h.2.2 j)
def cpi (h : HP) (a b sp dp n : Nat) : HP := (fun x j => if x = b ∧ dp ≤ j ∧ j < dp + n then h.1 a (sp + (j - dp)) else h.1 x j, h.2.1, h.2.2)
def cpl (h : HP) (a b sp dp n : Nat) : HP := (h.1, fun x j => if x = b ∧ dp ≤ j ∧ j < dp + n then h.2.1 a (sp + (j - dp)) else h.2.1 x j, h.2.2)
/-- what a cell is: 0 to 8 an object of that class of vwCl, 10 ints, 11 chars, 12 longs, 13 stations, 14 lines, 15 sheets; and an array's length -/
def ktW : List (Nat × Nat) := [(6, 0), (13, 6), (14, 10), (3, 0), (3, 0), (3, 0), (3, 0), (3, 0), (3, 0), (0, 0), (10, 16), (0, 0), (10, 16), (0, 0), (10, 16), (0, 0), (10, 16), (0, 0), (10, 16), (0, 0), (10, 16), (0, 0), (10, 16), (0, 0), (10, 16), (0, 0), (10, 16), (0, 0), (10, 16)]
def ktN : List (Nat × Nat) := [(1, 0), (10, 152), (10, 1068), (10, 1068), (10, 1068), (10, 534), (10, 152), (10, 152), (10, 152), (10, 152), (10, 152), (4, 0), (10, 121), (10, 10), (10, 10), (10, 6), (10, 6), (5, 0), (10, 120), (15, 4), (10, 8), (2, 0), (12, 40), (2, 0), (12, 40), (2, 0), (12, 40), (2, 0), (12, 40)]
def ktM : List (Nat × Nat) := [(8, 0), (10, 8), (10, 6), (10, 6), (10, 6), (10, 80), (10, 10), (10, 160), (10, 250), (10, 150), (10, 150), (10, 150), (10, 150), (10, 250), (10, 10), (10, 150), (10, 150), (10, 10), (10, 6), (10, 6), (10, 121), (10, 120), (11, 128), (10, 4), (10, 4), (12, 160), (12, 40), (10, 280), (10, 280)]
def kt : List (Nat × Nat) := (7, 0) :: (ktW ++ (ktW ++ (ktW ++ (ktN ++ ktM))))
theorem kt_len : kt.length = 146 := by decide +kernel
def kd (i : Nat) : Nat := (kt.getD i (99, 0)).1
def kn (i : Nat) : Nat := (kt.getD i (99, 0)).2
theorem kd_lt {i c : Nat} (h : kd i = c) (hc : c ≠ 99) : i < 146 := by
  apply Decidable.byContradiction
  intro hi
  apply hc
  rw [← h]
  unfold kd
  rw [List.getD_eq_getElem?_getD, List.getElem?_eq_none (by rw [kt_len]; omega)]
  rfl
/-- the fields of a class: 0 a number, 1 and 2 the worlds of network and stream, n + 3 the cell n further on -/
def fc : Nat → List Nat
  | 0 => [0, 0, 0, 0, 0, 0, 0, 0, 0, 4]
  | 1 => [1, 0, 0, 0, 0, 0, 0, 4, 5, 6, 7, 8, 9, 10, 11, 12, 13]
  | 2 => [4, 0, 0]
  | 3 => [0, 0, 0]
  | 4 => [2, 4, 0, 5, 6, 7, 8]
  | 5 => [4, 0, 0, 0, 0, 0, 0]
  | 6 => [0, 0, 0, 0, 4, 5]
  | 7 => [4, 33, 62, 91, 102, 108, 110, 111, 0]
  | 8 => [4, 0, 0, 0, 5, 6, 7, 0, 8, 9, 10, 11, 12, 13, 14, 15, 16, 17, 18, 19, 0, 20, 21, 22, 23, 24, 0, 0, 0, 0, 0, 25, 0, 26, 27, 28, 29, 30, 31, 0]
  | _ => []
/-- what is given from outside: where the new cells begin, the heap at the law's start, class numbers and slots, array classes, addresses of what isn't ours, the script, the launch -/
abbrev GE : Type := Nat × Heap × (Nat → ClassId) × (Nat → Nat → Nat) × (Nat → ClassId) × (Nat → Nat) × (Nat × (Nat → Int32)) × Launch
def gB (g : GE) : Nat := g.1
def gH (g : GE) : Heap := g.2.1
def gC (g : GE) : Nat → ClassId := g.2.2.1
def gS (g : GE) : Nat → Nat → Nat := g.2.2.2.1
def gA (g : GE) : Nat → ClassId := g.2.2.2.2.1
def gF (g : GE) : Nat → Nat := g.2.2.2.2.2.1
def gX (g : GE) : Nat × (Nat → Int32) := g.2.2.2.2.2.2.1
def gL (g : GE) : Launch := g.2.2.2.2.2.2.2
def adr (g : GE) (i : Nat) : Nat := if i < 5000 then gB g + i else gF g (i - 5000)
def cv (g : GE) : Value → Value
  | .ref a => .ref (adr g a)
  | v => v
def fv (g : GE) (h : HP) (i k : Nat) : Nat → Value
  | 0 => .int (gi h i k)
  | 1 => if gw h 0 = 0 then .null else .ref (gB g + gw h 0)
  | 2 => if gw h 1 = 0 then .null else .ref (gB g + gw h 1)
  | n + 3 => .ref (gB g + (i + n))
def objF (g : GE) (h : HP) (i : Nat) (cs : List Nat) : List Value := cs.mapIdx (fun k c => fv g h i k c)
def cellE (g : GE) (h : HP) (i : Nat) : va_E :=
  if kd i < 10 then .inr (kd i, objF g h i (fc (kd i)))
  else if kd i = 10 then .inl (gA g 0, kn i, .inl (gi h i))
  else if kd i = 11 then .inl (gA g 1, kn i, .inl (gi h i))
  else if kd i = 12 then .inl (gA g 2, kn i, .inr (.inl (gl h i)))
  else if kd i = 13 then .inl (gA g 3, kn i, .inr (.inr (.inr (.inr (fun j => some (gB g + (i + 2 + j)))))))
  else if kd i = 14 then .inl (gA g 4, kn i, .inr (.inr (.inr (.inr (fun j => some (gB g + (i + 7 + 2 * j)))))))
  else .inl (gA g 5, kn i, .inr (.inr (.inr (.inr (fun j => some (gB g + (i + 2 + 2 * j)))))))
def wd (g : GE) (h : HP) : va_W := (List.range 146).map (fun i => (gB g + i, cellE g h i))
theorem wd_get {g : GE} {h : HP} {i : Nat} (hi : i < 146) : (wd g h)[i]? = some (gB g + i, cellE g h i) := by
  simp [wd, hi]
theorem wd_D (g : GE) (h : HP) : va_D (fun q => gB g ≤ q) (wd g h) := by
  have key : ∀ (i : Nat) (p : Nat × va_E), (wd g h)[i]? = some p → p.1 = gB g + i := by
    intro i p hp
    simp only [wd, List.getElem?_map, Option.map_eq_some_iff] at hp
    obtain ⟨a, h1, h2⟩ := hp
    have h3 : a = i := by
      have := List.getElem?_eq_some_iff.mp h1
      obtain ⟨h4, h5⟩ := this
      simp at h5
      exact h5.symm
    rw [← h2, h3]
  refine ⟨fun i j p q hi hj e => ?_, fun k q hk => ?_⟩
  · have h1 := key i p hi
    have h2 := key j q hj
    omega
  · have h1 := key k q hk
    omega
theorem wd_set {g : GE} {h h' : HP} {i : Nat} {e : va_E} (he : cellE g h' i = e) (ho : ∀ j, j < 146 → j ≠ i → cellE g h' j = cellE g h j) : (wd g h).set i (gB g + i, e) = wd g h' := by
  apply List.ext_getElem?
  intro j
  by_cases hj : j = i
  · subst hj
    by_cases hl : j < 146
    · rw [List.getElem?_set_self (by simpa [wd] using hl), wd_get hl, he]
    · rw [List.getElem?_eq_none (by simp [wd]; omega), List.getElem?_eq_none (by simp [wd]; omega)]
  · rw [List.getElem?_set_ne (fun q => hj q.symm)]
    by_cases hl : j < 146
    · rw [wd_get hl, wd_get hl, ho j hl hj]
    · rw [List.getElem?_eq_none (by simp [wd]; omega), List.getElem?_eq_none (by simp [wd]; omega)]
abbrev frA (g : GE) : Nat → Prop := fun q => gB g ≤ q
abbrev tysG (g : GE) : List (ClassId × FieldType) := [(gA g 0, .int), (gA g 1, .char), (gA g 2, .long), (gA g 3, .object RX3), (gA g 4, .object RX0), (gA g 5, .object RX2)]
def luT (j : Nat) : Int32 := ([-1, 0, 0, 1, 2, 0] : List Int32).getD j 0
def suT (j : Nat) : Int32 := ([-1, 0, 0, 1] : List Int32).getD j 0
/-- the world: the cells hold what h says, nothing old has changed -/
def Rep (g : GE) (h : HP) (H : Heap) : Prop := va_P (gC g, gS g) vwCl (wd g h) H ∧ gB g ≤ H.size ∧ ∀ q, q < gB g → H[q]? = (gH g)[q]?
def nmS : List (Nat × String) := [(72, "yard"), (74, "shed"), (76, "quay"), (78, "vault"), (80, "road"), (82, "rail"), (84, "ferry"), (86, "express"), (88, "barge"), (90, "pass"), (113, "stock"), (119, "store"), (140, "wide"), (147, "long"), (151, "tide"), (155, "later")]
def leS : List Nat := [4, 4, 4, 5, 4, 4, 5, 7, 5, 4, 5, 5, 4, 4, 4, 5]
def byS : List (List Int32) := [[121, 97, 114, 100], [115, 104, 101, 100], [113, 117, 97, 121], [118, 97, 117, 108, 116], [114, 111, 97, 100], [114, 97, 105, 108], [102, 101, 114, 114, 121], [101, 120, 112, 114, 101, 115, 115], [98, 97, 114, 103, 101], [112, 97, 115, 115], [115, 116, 111, 99, 107], [115, 116, 111, 114, 101], [119, 105, 100, 101], [108, 111, 110, 103], [116, 105, 100, 101], [108, 97, 116, 101, 114]]
/-- what isn't ours and never changes: the script, two static rows, texts -/
def FR (g : GE) (U : State) : Prop :=
  va_X (gF g 0) (gX g).1 (gX g).2 U (gH g) ∧ gF g 0 < gB g ∧ (gH g).size = gB g ∧
  va_T .int (gF g 1) 6 (fun j => .int (luT j)) (frA g) U (gH g) ∧ va_T .int (gF g 2) 4 (fun j => .int (suT j)) (frA g) U (gH g) ∧
  va_Z RX7 "LINE_UNDER" "[I" (.ref (gF g 1)) (frA g) U (gH g) ∧ va_Z RX7 "STATION_UNDER" "[I" (.ref (gF g 2)) (frA g) U (gH g) ∧
  va_Z "java/lang/String" "COMPACT_STRINGS" "Z" (.int 1) (frA g) U (gH g) ∧
  va_Zq "jdk/internal/util/Preconditions" "SIOOBE_FORMATTER" "Ljava/util/function/BiFunction;" (frA g) U (gH g) ∧
  vk_S 16 leS byS (fun i => gF g (1000 + i)) (fun i => gF g (2000 + i)) (frA g) U (gH g)
def FT (g : GE) (U : State) : Prop := ∀ i, i < 16 → vk_R RX5 (nmS.getD i (0, "")).1 (nmS.getD i (0, "")).2 (gF g (1000 + i)) U
def nmN : List (String × Nat) := [(RX6, 45), (RX4, 72), (RX5, 61)]
def FN (U : State) : Prop := ∀ q ∈ nmN, va_Nw (.methodLinkNest q.1 q.2 yX7_isIn RX7) U
def FZ (g : GE) (U : State) : Prop := va_K (gC g, gS g) vwCl (tysG g) U ∧ FR g U ∧ FT g U ∧ FN U
theorem FZ.warm {g : GE} {s U : State} (hW : s.WarmedH U.vm) (h : FZ g s) : FZ g U := by
  have hvm := hW.alike
  obtain ⟨h1, ⟨a1, a2, a3, a4, a5, a6, a7, a8, a9, a10⟩, h3, h4⟩ := h
  exact ⟨va_K.moved hvm h1, ⟨a1.moved hvm, a2, a3, a4.moved hvm, a5.moved hvm, a6.moved hvm, a7.moved hvm, a8.moved hvm, a9.moved hvm, a10.moved hvm⟩, fun i hi => (h3 i hi).warm hW, fun q hq => va_Nw.warmM hW (h4 q hq)⟩
theorem FZ.same {g : GE} {s U : State} (hv : U.vm = s.vm) (h : FZ g s) : FZ g U := by
  have hvm : s.vm.Alike U.vm := by rw [hv]; exact Vm.Alike.refl s.vm
  obtain ⟨h1, ⟨a1, a2, a3, a4, a5, a6, a7, a8, a9, a10⟩, h3, h4⟩ := h
  exact ⟨va_K.moved hvm h1, ⟨a1.moved hvm, a2, a3, a4.moved hvm, a5.moved hvm, a6.moved hvm, a7.moved hvm, a8.moved hvm, a9.moved hvm, a10.moved hvm⟩, fun i hi => (h3 i hi).same hv, fun q hq => va_Nw.same rfl hv.symm (h4 q hq)⟩
/-- a method: frames and words that it needs below it, its class, bytes, places of locals, answer, name -/
abbrev MD : Type := (Nat × Nat) × String × ByteArray × Nat × Option FieldType × MethodName
def dF (d : MD) : Nat := d.1.1
def dW (d : MD) : Nat := d.1.2
def dO (d : MD) : String := d.2.1
def dB (d : MD) : ByteArray := d.2.2.1
def dN (d : MD) : Nat := d.2.2.2.1
def dR (d : MD) : Option FieldType := d.2.2.2.2.1
def dY (d : MD) : MethodName := d.2.2.2.2.2
def LV (g : GE) (lsr : Array Slot) (nL : Nat) (ls : List (Option Value)) : Prop := lsr.size = nL ∧ lv_wf lsr ∧ ∀ (i : Nat) (v : Value), ls[i]? = some (some v) → lsr[i]? = some (.val (cv g v))
def LO (g : GE) (locs : List Loc) : Prop := ∀ q ∈ locs, gB g ≤ q.base
def CX (g : GE) (d : MD) (p : Program) (R : Room) (s : State) (m : MethodId) (args : Array Value) (c : Code) (cells slots : Nat) : Prop :=
  p.tables.exec = Jvm.exec ∧ c.code = dB d ∧ c.maxLocals = dN d ∧ s.vm.findClass (dO d) = some m.cls ∧ (∀ w ∈ lwg, w.before args s = true) ∧ FZ g s ∧ dF d ≤ R.frames ∧ dW d ≤ R.locals ∧ cells ≤ R.cells ∧ slots ≤ R.slots
/-- an answer as its type keeps it -/
def RV (d : MD) : Option Value → Prop
  | none => dR d = none
  | some (.int v) => ∃ ty, dR d = some ty ∧ narrow ty (.int v) = .int v
  | some (.long _) => dR d = some .long
  | _ => False
def RD (d : MD) (pc : Nat) : Option Value → Prop
  | none => decode (dB d) pc = .ok (.return_, 1)
  | some (.int _) => decode (dB d) pc = .ok (.ireturn, 1)
  | some (.long _) => decode (dB d) pc = .ok (.lreturn, 1)
  | _ => False
/-- THE SMALL MACHINE: from pc, locals ls, stack st, heap h, the method comes to an end with Q -/
def Wm (g : GE) (d : MD) (pc : Nat) (ls : List (Option Value)) (st : List Value) (h : HP) (Q : Option Value → HP → Prop) : Prop :=
  ∀ (p : Program) (e : Env) (R : Room) (s : State) (m : MethodId) (args : Array Value) (below : List Frame) (meth : Method) (c : Code) (cells slots : Nat) (Qf : State → Prop),
    CX g d p R s m args c cells slots →
    (∀ (pc' : Nat) (lsr' : Array Slot) (H' : Heap) (locs' : List Loc) (r : Option Value) (h' : HP), Q r h' → Rep g h' H' → LO g locs' → RV d r → RD d pc' r → W p (gL g) e R s m args below meth c H' locs' cells slots Qf (F0 m pc' lsr' (r.toList.map (cv g)))) →
    ∀ (H : Heap) (locs : List Loc) (lsr : Array Slot), Rep g h H → LO g locs → LV g lsr (dN d) ls → W p (gL g) e R s m args below meth c H locs cells slots Qf (F0 m pc lsr (st.map (cv g)))
/-- locals as the kit lists them -/
def lm (g : GE) (ls : List (Option Value)) : List (Nat × Value) := ls.zipIdx.filterMap (fun q => q.1.map (fun v => (q.2, cv g v)))
theorem lm_mem {g : GE} {ls : List (Option Value)} {i : Nat} {w : Value} : (i, w) ∈ lm g ls ↔ ∃ v, ls[i]? = some (some v) ∧ w = cv g v := by
  simp only [lm, List.mem_filterMap, Prod.exists, Option.map_eq_some_iff, Prod.mk.injEq]
  constructor
  · rintro ⟨a, b, h1, v, rfl, rfl, rfl⟩
    have := List.mem_zipIdx_iff_getElem?.mp h1
    exact ⟨v, this, rfl⟩
  · rintro ⟨v, h1, rfl⟩
    exact ⟨some v, i, List.mem_zipIdx_iff_getElem?.mpr h1, v, rfl, rfl, rfl⟩
theorem LV.has {g : GE} {lsr : Array Slot} {nL : Nat} {ls : List (Option Value)} (h : LV g lsr nL ls) : lv_has lsr nL (lm g ls) := by
  refine ⟨h.1, h.2.1, fun q hq => ?_⟩
  obtain ⟨i, w⟩ := q
  obtain ⟨v, h1, rfl⟩ := lm_mem.mp hq
  exact h.2.2 i v h1
theorem cv_cat (g : GE) (v : Value) : (cv g v).category = v.category := by cases v <;> rfl
/-- storing a value of one place -/
theorem LV.put1 {g : GE} {lsr : Array Slot} {nL : Nat} {ls : List (Option Value)} {i : Nat} {v : Value} (hl : lv_has lsr nL ((i, cv g v) :: (lm g ls).filter (fun q => !(q.1 == i) && !(q.1 + 1 == i && q.2.category == 2)))) (hn : ∀ (j : Nat) (w : Value), j + 1 = i → ls[j]? = some (some w) → w.category = 1) : LV g lsr nL (ls.set i (some v)) := by
  refine ⟨hl.1, hl.2.1, fun j w hj => ?_⟩
  by_cases e : j = i
  · subst e
    have h1 := List.getElem?_eq_some_iff.mp hj
    obtain ⟨h2, h3⟩ := h1
    rw [List.getElem_set_self] at h3
    cases h3
    exact hl.2.2 (j, cv g v) List.mem_cons_self
  · rw [List.getElem?_set_ne (fun q => e q.symm)] at hj
    refine hl.2.2 (j, cv g w) (List.mem_cons_of_mem _ (List.mem_filter.mpr ⟨lm_mem.mpr ⟨w, hj, rfl⟩, ?_⟩))
    simp only [Bool.and_eq_true, Bool.not_eq_true', beq_eq_false_iff_ne, ne_eq, Bool.and_eq_false_iff]
    refine ⟨e, ?_⟩
    by_cases e2 : j + 1 = i
    · right
      show ¬ (cv g w).category = 2
      rw [cv_cat, hn j w e2 hj]
      decide
    · exact Or.inl e2
/-- storing a value of two places -/
theorem LV.put2 {g : GE} {lsr : Array Slot} {nL : Nat} {ls : List (Option Value)} {i : Nat} {v : Value} (hl : lv_has lsr nL ((i, cv g v) :: (lm g ls).filter (fun q => !(q.1 == i) && (!(q.1 == i + 1) && !(q.1 + 1 == i && q.2.category == 2))))) (hn : ∀ (j : Nat) (w : Value), j + 1 = i → ls[j]? = some (some w) → w.category = 1) : LV g lsr nL ((ls.set i (some v)).set (i + 1) none) := by
  refine ⟨hl.1, hl.2.1, fun j w hj => ?_⟩
  by_cases e1 : j = i + 1
  · subst e1
    have h1 := List.getElem?_eq_some_iff.mp hj
    obtain ⟨h2, h3⟩ := h1
    rw [List.getElem_set_self] at h3
    cases h3
  · rw [List.getElem?_set_ne (fun q => e1 q.symm)] at hj
    by_cases e : j = i
    · subst e
      have h1 := List.getElem?_eq_some_iff.mp hj
      obtain ⟨h2, h3⟩ := h1
      rw [List.getElem_set_self] at h3
      cases h3
      exact hl.2.2 (j, cv g v) List.mem_cons_self
    · rw [List.getElem?_set_ne (fun q => e q.symm)] at hj
      refine hl.2.2 (j, cv g w) (List.mem_cons_of_mem _ (List.mem_filter.mpr ⟨lm_mem.mpr ⟨w, hj, rfl⟩, ?_⟩))
      simp only [Bool.and_eq_true, Bool.not_eq_true', beq_eq_false_iff_ne, ne_eq, Bool.and_eq_false_iff]
      refine ⟨e, e1, ?_⟩
      by_cases e2 : j + 1 = i
      · right
        show ¬ (cv g w).category = 2
        rw [cv_cat, hn j w e2 hj]
        decide
      · exact Or.inl e2
/-- one step: what the machine does, said once for all -/
theorem wm_of {g : GE} {d : MD} {pc pc' : Nat} {ls ls' : List (Option Value)} {st st' : List Value} {h h' : HP} {Q : Option Value → HP → Prop}
    (step : ∀ (p : Program) (e : Env) (R : Room) (s : State) (m : MethodId) (args : Array Value) (below : List Frame) (meth : Method) (c : Code) (cells slots : Nat) (Qf : State → Prop),
      CX g d p R s m args c cells slots → ∀ (H : Heap) (locs : List Loc) (lsr : Array Slot), Rep g h H → LO g locs → LV g lsr (dN d) ls →
      (∀ (H' : Heap) (locs' : List Loc) (lsr' : Array Slot), Rep g h' H' → LO g locs' → LV g lsr' (dN d) ls' → W p (gL g) e R s m args below meth c H' locs' cells slots Qf (F0 m pc' lsr' (st'.map (cv g)))) →
      W p (gL g) e R s m args below meth c H locs cells slots Qf (F0 m pc lsr (st.map (cv g))))
    (k : Wm g d pc' ls' st' h' Q) : Wm g d pc ls st h Q := by
  intro p e R s m args below meth c cells slots Qf X RET H locs lsr hR hL hV
  exact step p e R s m args below meth c cells slots Qf X H locs lsr hR hL hV (fun H' locs' lsr' r1 r2 r3 => k p e R s m args below meth c cells slots Qf X RET H' locs' lsr' r1 r2 r3)
/-- fewer locals known -/
theorem wm_drop {g : GE} {d : MD} {pc : Nat} {ls : List (Option Value)} {st : List Value} {h : HP} {Q : Option Value → HP → Prop} (ls' : List (Option Value)) (hs : ∀ (i : Nat) (v : Value), ls'[i]? = some (some v) → ls[i]? = some (some v)) (k : Wm g d pc ls' st h Q) : Wm g d pc ls st h Q := by
  intro p e R s m args below meth c cells slots Qf X RET H locs lsr hR hL hV
  exact k p e R s m args below meth c cells slots Qf X RET H locs lsr hR hL ⟨hV.1, hV.2.1, fun i v q => hV.2.2 i v (hs i v q)⟩
theorem wm_mono {g : GE} {d : MD} {pc : Nat} {ls : List (Option Value)} {st : List Value} {h : HP} {Q Q' : Option Value → HP → Prop} (k : Wm g d pc ls st h Q) (hq : ∀ r h', Q r h' → Q' r h') : Wm g d pc ls st h Q' := by
  intro p e R s m args below meth c cells slots Qf X RET H locs lsr hR hL hV
  exact k p e R s m args below meth c cells slots Qf X (fun pc' lsr' H' locs' r h' q => RET pc' lsr' H' locs' r h' (hq r h' q)) H locs lsr hR hL hV
/-- a return -/
theorem wm_ret {g : GE} {d : MD} {pc : Nat} {ls : List (Option Value)} {h : HP} {Q : Option Value → HP → Prop} (r : Option Value) (hd : RD d pc r) (hv : RV d r) (hq : Q r h) : Wm g d pc ls r.toList h Q := by
  intro p e R s m args below meth c cells slots Qf X RET H locs lsr hR hL hV
  exact RET pc lsr H locs r h hq hR hL hv hd
end
section
theorem wm_iadd {g : GE} {d : MD} {pc : Nat} {ls : List (Option Value)} {st : List Value} {h : HP} {Q : Option Value → HP → Prop} {x y : Int32} (pc' : Nat) (hd : decode (dB d) pc = .ok (.iadd, 1)) (hp : pc + 1 = pc') (k : Wm g d pc' ls (.int (x + y) :: st) h Q) : Wm g d pc ls (.int y :: .int x :: st) h Q := by
  subst hp
  exact wm_of (fun p e R s m args below meth c cells slots Qf X H locs lsr hR hL hV K => lv_iadd X.1 X.2.1 hd  (K H locs lsr hR hL hV)) k
theorem wm_isub {g : GE} {d : MD} {pc : Nat} {ls : List (Option Value)} {st : List Value} {h : HP} {Q : Option Value → HP → Prop} {x y : Int32} (pc' : Nat) (hd : decode (dB d) pc = .ok (.isub, 1)) (hp : pc + 1 = pc') (k : Wm g d pc' ls (.int (x - y) :: st) h Q) : Wm g d pc ls (.int y :: .int x :: st) h Q := by
  subst hp
  exact wm_of (fun p e R s m args below meth c cells slots Qf X H locs lsr hR hL hV K => lv_isub X.1 X.2.1 hd  (K H locs lsr hR hL hV)) k
theorem wm_imul {g : GE} {d : MD} {pc : Nat} {ls : List (Option Value)} {st : List Value} {h : HP} {Q : Option Value → HP → Prop} {x y : Int32} (pc' : Nat) (hd : decode (dB d) pc = .ok (.imul, 1)) (hp : pc + 1 = pc') (k : Wm g d pc' ls (.int (x * y) :: st) h Q) : Wm g d pc ls (.int y :: .int x :: st) h Q := by
  subst hp
  exact wm_of (fun p e R s m args below meth c cells slots Qf X H locs lsr hR hL hV K => lv_imul X.1 X.2.1 hd  (K H locs lsr hR hL hV)) k
theorem wm_iand {g : GE} {d : MD} {pc : Nat} {ls : List (Option Value)} {st : List Value} {h : HP} {Q : Option Value → HP → Prop} {x y : Int32} (pc' : Nat) (hd : decode (dB d) pc = .ok (.iand, 1)) (hp : pc + 1 = pc') (k : Wm g d pc' ls (.int (x &&& y) :: st) h Q) : Wm g d pc ls (.int y :: .int x :: st) h Q := by
  subst hp
  exact wm_of (fun p e R s m args below meth c cells slots Qf X H locs lsr hR hL hV K => lv_iand X.1 X.2.1 hd  (K H locs lsr hR hL hV)) k
theorem wm_ior {g : GE} {d : MD} {pc : Nat} {ls : List (Option Value)} {st : List Value} {h : HP} {Q : Option Value → HP → Prop} {x y : Int32} (pc' : Nat) (hd : decode (dB d) pc = .ok (.ior, 1)) (hp : pc + 1 = pc') (k : Wm g d pc' ls (.int (x ||| y) :: st) h Q) : Wm g d pc ls (.int y :: .int x :: st) h Q := by
  subst hp
  exact wm_of (fun p e R s m args below meth c cells slots Qf X H locs lsr hR hL hV K => lv_ior X.1 X.2.1 hd  (K H locs lsr hR hL hV)) k
theorem wm_ixor {g : GE} {d : MD} {pc : Nat} {ls : List (Option Value)} {st : List Value} {h : HP} {Q : Option Value → HP → Prop} {x y : Int32} (pc' : Nat) (hd : decode (dB d) pc = .ok (.ixor, 1)) (hp : pc + 1 = pc') (k : Wm g d pc' ls (.int (x ^^^ y) :: st) h Q) : Wm g d pc ls (.int y :: .int x :: st) h Q := by
  subst hp
  exact wm_of (fun p e R s m args below meth c cells slots Qf X H locs lsr hR hL hV K => lv_ixor X.1 X.2.1 hd  (K H locs lsr hR hL hV)) k
theorem wm_ishl {g : GE} {d : MD} {pc : Nat} {ls : List (Option Value)} {st : List Value} {h : HP} {Q : Option Value → HP → Prop} {x y : Int32} (pc' : Nat) (hd : decode (dB d) pc = .ok (.ishl, 1)) (hp : pc + 1 = pc') (k : Wm g d pc' ls (.int (x <<< (y &&& 31)) :: st) h Q) : Wm g d pc ls (.int y :: .int x :: st) h Q := by
  subst hp
  exact wm_of (fun p e R s m args below meth c cells slots Qf X H locs lsr hR hL hV K => lv_ishl X.1 X.2.1 hd  (K H locs lsr hR hL hV)) k
theorem wm_ishr {g : GE} {d : MD} {pc : Nat} {ls : List (Option Value)} {st : List Value} {h : HP} {Q : Option Value → HP → Prop} {x y : Int32} (pc' : Nat) (hd : decode (dB d) pc = .ok (.ishr, 1)) (hp : pc + 1 = pc') (k : Wm g d pc' ls (.int (x >>> (y &&& 31)) :: st) h Q) : Wm g d pc ls (.int y :: .int x :: st) h Q := by
  subst hp
  exact wm_of (fun p e R s m args below meth c cells slots Qf X H locs lsr hR hL hV K => lv_ishr X.1 X.2.1 hd  (K H locs lsr hR hL hV)) k
theorem wm_idiv {g : GE} {d : MD} {pc : Nat} {ls : List (Option Value)} {st : List Value} {h : HP} {Q : Option Value → HP → Prop} {x y : Int32} (pc' : Nat) (hd : decode (dB d) pc = .ok (.idiv, 1)) (hp : pc + 1 = pc') (hne : ¬ y = 0) (k : Wm g d pc' ls (.int (x / y) :: st) h Q) : Wm g d pc ls (.int y :: .int x :: st) h Q := by
  subst hp
  exact wm_of (fun p e R s m args below meth c cells slots Qf X H locs lsr hR hL hV K => lv_idiv X.1 X.2.1 hd hne (K H locs lsr hR hL hV)) k
theorem wm_irem {g : GE} {d : MD} {pc : Nat} {ls : List (Option Value)} {st : List Value} {h : HP} {Q : Option Value → HP → Prop} {x y : Int32} (pc' : Nat) (hd : decode (dB d) pc = .ok (.irem, 1)) (hp : pc + 1 = pc') (hne : ¬ y = 0) (k : Wm g d pc' ls (.int (x - x / y * y) :: st) h Q) : Wm g d pc ls (.int y :: .int x :: st) h Q := by
  subst hp
  exact wm_of (fun p e R s m args below meth c cells slots Qf X H locs lsr hR hL hV K => lv_irem X.1 X.2.1 hd hne (K H locs lsr hR hL hV)) k
theorem wm_ineg {g : GE} {d : MD} {pc : Nat} {ls : List (Option Value)} {st : List Value} {h : HP} {Q : Option Value → HP → Prop} {x : Int32} (pc' : Nat) (hd : decode (dB d) pc = .ok (.ineg, 1)) (hp : pc + 1 = pc') (k : Wm g d pc' ls (.int (-x) :: st) h Q) : Wm g d pc ls (.int x :: st) h Q := by
  subst hp
  exact wm_of (fun p e R s m args below meth c cells slots Qf X H locs lsr hR hL hV K => lv_ineg X.1 X.2.1 hd  (K H locs lsr hR hL hV)) k
theorem wm_ladd {g : GE} {d : MD} {pc : Nat} {ls : List (Option Value)} {st : List Value} {h : HP} {Q : Option Value → HP → Prop} {x y : Int64} (pc' : Nat) (hd : decode (dB d) pc = .ok (.ladd, 1)) (hp : pc + 1 = pc') (k : Wm g d pc' ls (.long (x + y) :: st) h Q) : Wm g d pc ls (.long y :: .long x :: st) h Q := by
  subst hp
  exact wm_of (fun p e R s m args below meth c cells slots Qf X H locs lsr hR hL hV K => lv_ladd X.1 X.2.1 hd  (K H locs lsr hR hL hV)) k
theorem wm_lsub {g : GE} {d : MD} {pc : Nat} {ls : List (Option Value)} {st : List Value} {h : HP} {Q : Option Value → HP → Prop} {x y : Int64} (pc' : Nat) (hd : decode (dB d) pc = .ok (.lsub, 1)) (hp : pc + 1 = pc') (k : Wm g d pc' ls (.long (x - y) :: st) h Q) : Wm g d pc ls (.long y :: .long x :: st) h Q := by
  subst hp
  exact wm_of (fun p e R s m args below meth c cells slots Qf X H locs lsr hR hL hV K => lv_lsub X.1 X.2.1 hd  (K H locs lsr hR hL hV)) k
theorem wm_lmul {g : GE} {d : MD} {pc : Nat} {ls : List (Option Value)} {st : List Value} {h : HP} {Q : Option Value → HP → Prop} {x y : Int64} (pc' : Nat) (hd : decode (dB d) pc = .ok (.lmul, 1)) (hp : pc + 1 = pc') (k : Wm g d pc' ls (.long (x * y) :: st) h Q) : Wm g d pc ls (.long y :: .long x :: st) h Q := by
  subst hp
  exact wm_of (fun p e R s m args below meth c cells slots Qf X H locs lsr hR hL hV K => lv_lmul X.1 X.2.1 hd  (K H locs lsr hR hL hV)) k
theorem wm_land {g : GE} {d : MD} {pc : Nat} {ls : List (Option Value)} {st : List Value} {h : HP} {Q : Option Value → HP → Prop} {x y : Int64} (pc' : Nat) (hd : decode (dB d) pc = .ok (.land, 1)) (hp : pc + 1 = pc') (k : Wm g d pc' ls (.long (x &&& y) :: st) h Q) : Wm g d pc ls (.long y :: .long x :: st) h Q := by
  subst hp
  exact wm_of (fun p e R s m args below meth c cells slots Qf X H locs lsr hR hL hV K => lv_land X.1 X.2.1 hd  (K H locs lsr hR hL hV)) k
theorem wm_lor {g : GE} {d : MD} {pc : Nat} {ls : List (Option Value)} {st : List Value} {h : HP} {Q : Option Value → HP → Prop} {x y : Int64} (pc' : Nat) (hd : decode (dB d) pc = .ok (.lor, 1)) (hp : pc + 1 = pc') (k : Wm g d pc' ls (.long (x ||| y) :: st) h Q) : Wm g d pc ls (.long y :: .long x :: st) h Q := by
  subst hp
  exact wm_of (fun p e R s m args below meth c cells slots Qf X H locs lsr hR hL hV K => lv_lor X.1 X.2.1 hd  (K H locs lsr hR hL hV)) k
theorem wm_ldiv {g : GE} {d : MD} {pc : Nat} {ls : List (Option Value)} {st : List Value} {h : HP} {Q : Option Value → HP → Prop} {x y : Int64} (pc' : Nat) (hd : decode (dB d) pc = .ok (.ldiv, 1)) (hp : pc + 1 = pc') (hne : ¬ y = 0) (k : Wm g d pc' ls (.long (x / y) :: st) h Q) : Wm g d pc ls (.long y :: .long x :: st) h Q := by
  subst hp
  exact wm_of (fun p e R s m args below meth c cells slots Qf X H locs lsr hR hL hV K => lv_ldiv X.1 X.2.1 hd hne (K H locs lsr hR hL hV)) k
theorem wm_lshl {g : GE} {d : MD} {pc : Nat} {ls : List (Option Value)} {st : List Value} {h : HP} {Q : Option Value → HP → Prop} {x : Int64} {y : Int32} (pc' : Nat) (hd : decode (dB d) pc = .ok (.lshl, 1)) (hp : pc + 1 = pc') (k : Wm g d pc' ls (.long (x <<< (y.toInt64 &&& 63)) :: st) h Q) : Wm g d pc ls (.int y :: .long x :: st) h Q := by
  subst hp
  exact wm_of (fun p e R s m args below meth c cells slots Qf X H locs lsr hR hL hV K => lv_lshl X.1 X.2.1 hd rfl (K H locs lsr hR hL hV)) k
theorem wm_lcmp {g : GE} {d : MD} {pc : Nat} {ls : List (Option Value)} {st : List Value} {h : HP} {Q : Option Value → HP → Prop} {x y : Int64} (pc' : Nat) (hd : decode (dB d) pc = .ok (.lcmp, 1)) (hp : pc + 1 = pc') (k : Wm g d pc' ls (.int (lg_cmp x y) :: st) h Q) : Wm g d pc ls (.long y :: .long x :: st) h Q := by
  subst hp
  exact wm_of (fun p e R s m args below meth c cells slots Qf X H locs lsr hR hL hV K => W.lcmp X.1 X.2.1 hd  (K H locs lsr hR hL hV)) k
theorem wm_i2l {g : GE} {d : MD} {pc : Nat} {ls : List (Option Value)} {st : List Value} {h : HP} {Q : Option Value → HP → Prop} {x : Int32} (pc' : Nat) (hd : decode (dB d) pc = .ok (.i2l, 1)) (hp : pc + 1 = pc') (k : Wm g d pc' ls (.long x.toInt64 :: st) h Q) : Wm g d pc ls (.int x :: st) h Q := by
  subst hp
  exact wm_of (fun p e R s m args below meth c cells slots Qf X H locs lsr hR hL hV K => lv_i2l X.1 X.2.1 hd rfl (K H locs lsr hR hL hV)) k
theorem wm_l2i {g : GE} {d : MD} {pc : Nat} {ls : List (Option Value)} {st : List Value} {h : HP} {Q : Option Value → HP → Prop} {x : Int64} (pc' : Nat) (hd : decode (dB d) pc = .ok (.l2i, 1)) (hp : pc + 1 = pc') (k : Wm g d pc' ls (.int x.toInt32 :: st) h Q) : Wm g d pc ls (.long x :: st) h Q := by
  subst hp
  exact wm_of (fun p e R s m args below meth c cells slots Qf X H locs lsr hR hL hV K => lv_l2i X.1 X.2.1 hd rfl (K H locs lsr hR hL hV)) k
theorem wm_i2s {g : GE} {d : MD} {pc : Nat} {ls : List (Option Value)} {st : List Value} {h : HP} {Q : Option Value → HP → Prop} {x : Int32} (pc' : Nat) (hd : decode (dB d) pc = .ok (.i2s, 1)) (hp : pc + 1 = pc') (k : Wm g d pc' ls (.int x.toInt16.toInt32 :: st) h Q) : Wm g d pc ls (.int x :: st) h Q := by
  subst hp
  exact wm_of (fun p e R s m args below meth c cells slots Qf X H locs lsr hR hL hV K => lv_i2s X.1 X.2.1 hd rfl (K H locs lsr hR hL hV)) k
theorem wm_iconst {g : GE} {d : MD} {pc : Nat} {ls : List (Option Value)} {st : List Value} {h : HP} {Q : Option Value → HP → Prop}  {n : Int} (v : Int32) (pc' : Nat) (hd : decode (dB d) pc = .ok (.iconst n, 1)) (hp : pc + 1 = pc') (hv : Int32.ofInt n = v) (k : Wm g d pc' ls (.int v :: st) h Q) : Wm g d pc ls (st) h Q := by
  subst hp
  exact wm_of (fun p e R s m args below meth c cells slots Qf X H locs lsr hR hL hV K => lv_iconst X.1 X.2.1 hd hv (K H locs lsr hR hL hV)) k
theorem wm_bipush {g : GE} {d : MD} {pc : Nat} {ls : List (Option Value)} {st : List Value} {h : HP} {Q : Option Value → HP → Prop}  {n : Int} (v : Int32) (pc' : Nat) (hd : decode (dB d) pc = .ok (.bipush n, 2)) (hp : pc + 2 = pc') (hv : (Int8.ofInt n).toInt32 = v) (k : Wm g d pc' ls (.int v :: st) h Q) : Wm g d pc ls (st) h Q := by
  subst hp
  exact wm_of (fun p e R s m args below meth c cells slots Qf X H locs lsr hR hL hV K => lv_bipush X.1 X.2.1 hd hv (K H locs lsr hR hL hV)) k
theorem wm_sipush {g : GE} {d : MD} {pc : Nat} {ls : List (Option Value)} {st : List Value} {h : HP} {Q : Option Value → HP → Prop}  {n : Int} (v : Int32) (pc' : Nat) (hd : decode (dB d) pc = .ok (.sipush n, 3)) (hp : pc + 3 = pc') (hv : (Int16.ofInt n).toInt32 = v) (k : Wm g d pc' ls (.int v :: st) h Q) : Wm g d pc ls (st) h Q := by
  subst hp
  exact wm_of (fun p e R s m args below meth c cells slots Qf X H locs lsr hR hL hV K => lv_sipush X.1 X.2.1 hd hv (K H locs lsr hR hL hV)) k
theorem wm_lconst {g : GE} {d : MD} {pc : Nat} {ls : List (Option Value)} {st : List Value} {h : HP} {Q : Option Value → HP → Prop}  {n : Fin 2} (v : Int64) (pc' : Nat) (hd : decode (dB d) pc = .ok (.lconst n, 1)) (hp : pc + 1 = pc') (hv : Int64.ofNat (n : Nat) = v) (k : Wm g d pc' ls (.long v :: st) h Q) : Wm g d pc ls (st) h Q := by
  subst hp
  exact wm_of (fun p e R s m args below meth c cells slots Qf X H locs lsr hR hL hV K => lv_lconst X.1 X.2.1 hd hv (K H locs lsr hR hL hV)) k
theorem wm_ldc {g : GE} {d : MD} {pc : Nat} {ls : List (Option Value)} {st : List Value} {h : HP} {Q : Option Value → HP → Prop} {i : Nat} (v : Int32) (pc' : Nat) (hc : Cond.constant (dO d) i v ∈ lwg) (hd : decode (dB d) pc = .ok (.ldc i, 2)) (hp : pc + 2 = pc') (k : Wm g d pc' ls (.int v :: st) h Q) : Wm g d pc ls st h Q := by
  subst hp
  exact wm_of (fun p e R s m args below meth c cells slots Qf X H locs lsr hR hL hV K => lv_ldc X.1 X.2.1 X.2.2.2.1 (X.2.2.2.2.1 _ hc) hd (K H locs lsr hR hL hV)) k
theorem wm_ldcw {g : GE} {d : MD} {pc : Nat} {ls : List (Option Value)} {st : List Value} {h : HP} {Q : Option Value → HP → Prop} {i : Nat} (v : Int32) (pc' : Nat) (hc : Cond.constant (dO d) i v ∈ lwg) (hd : decode (dB d) pc = .ok (.ldc_w i, 3)) (hp : pc + 3 = pc') (k : Wm g d pc' ls (.int v :: st) h Q) : Wm g d pc ls st h Q := by
  subst hp
  exact wm_of (fun p e R s m args below meth c cells slots Qf X H locs lsr hR hL hV K => lv_ldcw X.1 X.2.1 X.2.2.2.1 (X.2.2.2.2.1 _ hc) hd (K H locs lsr hR hL hV)) k
theorem wm_ldc2 {g : GE} {d : MD} {pc : Nat} {ls : List (Option Value)} {st : List Value} {h : HP} {Q : Option Value → HP → Prop} {i : Nat} (v : Int64) (pc' : Nat) (hc : Cond.constantLong (dO d) i v ∈ lwg) (hd : decode (dB d) pc = .ok (.ldc2_w i, 3)) (hp : pc + 3 = pc') (k : Wm g d pc' ls (.long v :: st) h Q) : Wm g d pc ls st h Q := by
  subst hp
  exact wm_of (fun p e R s m args below meth c cells slots Qf X H locs lsr hR hL hV K => lv_ldc2 X.1 X.2.1 X.2.2.2.1 (X.2.2.2.2.1 _ hc) hd (K H locs lsr hR hL hV)) k
theorem wm_dup {g : GE} {d : MD} {pc : Nat} {ls : List (Option Value)} {st : List Value} {h : HP} {Q : Option Value → HP → Prop} {v : Value} (pc' : Nat) (hd : decode (dB d) pc = .ok (.dup, 1)) (hp : pc + 1 = pc') (hv : v.category = 1) (k : Wm g d pc' ls (v :: v :: st) h Q) : Wm g d pc ls (v :: st) h Q := by
  subst hp
  exact wm_of (fun p e R s m args below meth c cells slots Qf X H locs lsr hR hL hV K => lv_dup X.1 X.2.1 hd (by rw [cv_cat]; exact hv) (K H locs lsr hR hL hV)) k
theorem wm_pop {g : GE} {d : MD} {pc : Nat} {ls : List (Option Value)} {st : List Value} {h : HP} {Q : Option Value → HP → Prop} {v : Value} (pc' : Nat) (hd : decode (dB d) pc = .ok (.pop, 1)) (hp : pc + 1 = pc') (hv : v.category = 1) (k : Wm g d pc' ls st h Q) : Wm g d pc ls (v :: st) h Q := by
  subst hp
  exact wm_of (fun p e R s m args below meth c cells slots Qf X H locs lsr hR hL hV K => lv_pop (va := cv g v) X.1 X.2.1 hd (by rw [cv_cat]; exact hv) (K H locs lsr hR hL hV)) k
theorem wm_dup2 {g : GE} {d : MD} {pc : Nat} {ls : List (Option Value)} {st : List Value} {h : HP} {Q : Option Value → HP → Prop} {v w : Value} (pc' : Nat) (hd : decode (dB d) pc = .ok (.dup2, 1)) (hp : pc + 1 = pc') (hv : v.category = 1) (hw : w.category = 1) (k : Wm g d pc' ls (v :: w :: v :: w :: st) h Q) : Wm g d pc ls (v :: w :: st) h Q := by
  subst hp
  exact wm_of (fun p e R s m args below meth c cells slots Qf X H locs lsr hR hL hV K => lv_dup2_11 X.1 X.2.1 hd (by rw [cv_cat]; exact hv) (by rw [cv_cat]; exact hw) (K H locs lsr hR hL hV)) k
theorem wm_dup2L {g : GE} {d : MD} {pc : Nat} {ls : List (Option Value)} {st : List Value} {h : HP} {Q : Option Value → HP → Prop} {v : Value} (pc' : Nat) (hd : decode (dB d) pc = .ok (.dup2, 1)) (hp : pc + 1 = pc') (hv : v.category = 2) (k : Wm g d pc' ls (v :: v :: st) h Q) : Wm g d pc ls (v :: st) h Q := by
  subst hp
  exact wm_of (fun p e R s m args below meth c cells slots Qf X H locs lsr hR hL hV K => lv_dup2_2 X.1 X.2.1 hd (by rw [cv_cat]; exact hv) (K H locs lsr hR hL hV)) k
theorem wm_iload {g : GE} {d : MD} {pc : Nat} {ls : List (Option Value)} {st : List Value} {h : HP} {Q : Option Value → HP → Prop} (i : Nat) {x : Int32} (pc' : Nat) (hd : decode (dB d) pc = .ok (.iload i, 2)) (hp : pc + 2 = pc') (hl : ls[i]? = some (some (.int x))) (k : Wm g d pc' ls (.int x :: st) h Q) : Wm g d pc ls st h Q := by
  subst hp
  exact wm_of (fun p e R s m args below meth c cells slots Qf X H locs lsr hR hL hV K => lv_iload X.1 X.2.1 hd (hV.2.2 i _ hl) (K H locs lsr hR hL hV)) k
theorem wm_iload_n {g : GE} {d : MD} {pc : Nat} {ls : List (Option Value)} {st : List Value} {h : HP} {Q : Option Value → HP → Prop} (i : Fin 4) {x : Int32} (pc' : Nat) (hd : decode (dB d) pc = .ok (.iload_n i, 1)) (hp : pc + 1 = pc') (hl : ls[(i : Nat)]? = some (some (.int x))) (k : Wm g d pc' ls (.int x :: st) h Q) : Wm g d pc ls st h Q := by
  subst hp
  exact wm_of (fun p e R s m args below meth c cells slots Qf X H locs lsr hR hL hV K => lv_iload_n X.1 X.2.1 hd rfl (hV.2.2 i _ hl) (K H locs lsr hR hL hV)) k
theorem wm_lload {g : GE} {d : MD} {pc : Nat} {ls : List (Option Value)} {st : List Value} {h : HP} {Q : Option Value → HP → Prop} (i : Nat) {x : Int64} (pc' : Nat) (hd : decode (dB d) pc = .ok (.lload i, 2)) (hp : pc + 2 = pc') (hl : ls[i]? = some (some (.long x))) (k : Wm g d pc' ls (.long x :: st) h Q) : Wm g d pc ls st h Q := by
  subst hp
  exact wm_of (fun p e R s m args below meth c cells slots Qf X H locs lsr hR hL hV K => lv_lload X.1 X.2.1 hd (hV.2.2 i _ hl) (K H locs lsr hR hL hV)) k
theorem wm_lload_n {g : GE} {d : MD} {pc : Nat} {ls : List (Option Value)} {st : List Value} {h : HP} {Q : Option Value → HP → Prop} (i : Fin 4) {x : Int64} (pc' : Nat) (hd : decode (dB d) pc = .ok (.lload_n i, 1)) (hp : pc + 1 = pc') (hl : ls[(i : Nat)]? = some (some (.long x))) (k : Wm g d pc' ls (.long x :: st) h Q) : Wm g d pc ls st h Q := by
  subst hp
  exact wm_of (fun p e R s m args below meth c cells slots Qf X H locs lsr hR hL hV K => lv_lload_n X.1 X.2.1 hd rfl (hV.2.2 i _ hl) (K H locs lsr hR hL hV)) k
theorem wm_aload {g : GE} {d : MD} {pc : Nat} {ls : List (Option Value)} {st : List Value} {h : HP} {Q : Option Value → HP → Prop} (i : Nat) {x : Nat} (pc' : Nat) (hd : decode (dB d) pc = .ok (.aload i, 2)) (hp : pc + 2 = pc') (hl : ls[i]? = some (some (.ref x))) (k : Wm g d pc' ls (.ref x :: st) h Q) : Wm g d pc ls st h Q := by
  subst hp
  exact wm_of (fun p e R s m args below meth c cells slots Qf X H locs lsr hR hL hV K => lv_aload X.1 X.2.1 hd (hV.2.2 i _ hl) (K H locs lsr hR hL hV)) k
theorem wm_aload_n {g : GE} {d : MD} {pc : Nat} {ls : List (Option Value)} {st : List Value} {h : HP} {Q : Option Value → HP → Prop} (i : Fin 4) {x : Nat} (pc' : Nat) (hd : decode (dB d) pc = .ok (.aload_n i, 1)) (hp : pc + 1 = pc') (hl : ls[(i : Nat)]? = some (some (.ref x))) (k : Wm g d pc' ls (.ref x :: st) h Q) : Wm g d pc ls st h Q := by
  subst hp
  exact wm_of (fun p e R s m args below meth c cells slots Qf X H locs lsr hR hL hV K => lv_aload_n X.1 X.2.1 hd rfl (hV.2.2 i _ hl) (K H locs lsr hR hL hV)) k
theorem wm_istore {g : GE} {d : MD} {pc : Nat} {ls : List (Option Value)} {st : List Value} {h : HP} {Q : Option Value → HP → Prop} (i : Nat) {x : Int32} (pc' : Nat) (ls' : List (Option Value)) (hd : decode (dB d) pc = .ok (.istore i, 2)) (hp : pc + 2 = pc') (hi : i < dN d) (hn : ∀ (j : Nat) (w : Value), j + 1 = i → ls[j]? = some (some w) → w.category = 1) (hs : ls.set i (some (.int x)) = ls') (k : Wm g d pc' ls' st h Q) : Wm g d pc ls (.int x :: st) h Q := by
  subst hp
  subst hs
  exact wm_of (fun p e R s m args below meth c cells slots Qf X H locs lsr hR hL hV K => lv_istore X.1 X.2.1 hd hV.has hi rfl (fun ls9 h9 => K H locs ls9 hR hL (LV.put1 (v := .int x) h9 hn))) k
theorem wm_istore_n {g : GE} {d : MD} {pc : Nat} {ls : List (Option Value)} {st : List Value} {h : HP} {Q : Option Value → HP → Prop} (i : Fin 4) {x : Int32} (pc' : Nat) (ls' : List (Option Value)) (hd : decode (dB d) pc = .ok (.istore_n i, 1)) (hp : pc + 1 = pc') (hi : (i : Nat) < dN d) (hn : ∀ (j : Nat) (w : Value), j + 1 = (i : Nat) → ls[j]? = some (some w) → w.category = 1) (hs : ls.set (i : Nat) (some (.int x)) = ls') (k : Wm g d pc' ls' st h Q) : Wm g d pc ls (.int x :: st) h Q := by
  subst hp
  subst hs
  exact wm_of (fun p e R s m args below meth c cells slots Qf X H locs lsr hR hL hV K => lv_istore_n X.1 X.2.1 hd rfl hV.has hi rfl (fun ls9 h9 => K H locs ls9 hR hL (LV.put1 (v := .int x) h9 hn))) k
theorem wm_astore {g : GE} {d : MD} {pc : Nat} {ls : List (Option Value)} {st : List Value} {h : HP} {Q : Option Value → HP → Prop} (i : Nat) {x : Nat} (pc' : Nat) (ls' : List (Option Value)) (hd : decode (dB d) pc = .ok (.astore i, 2)) (hp : pc + 2 = pc') (hi : i < dN d) (hn : ∀ (j : Nat) (w : Value), j + 1 = i → ls[j]? = some (some w) → w.category = 1) (hs : ls.set i (some (.ref x)) = ls') (k : Wm g d pc' ls' st h Q) : Wm g d pc ls (.ref x :: st) h Q := by
  subst hp
  subst hs
  exact wm_of (fun p e R s m args below meth c cells slots Qf X H locs lsr hR hL hV K => lv_astore X.1 X.2.1 hd hV.has hi rfl (fun ls9 h9 => K H locs ls9 hR hL (LV.put1 (v := .ref x) h9 hn))) k
theorem wm_astore_n {g : GE} {d : MD} {pc : Nat} {ls : List (Option Value)} {st : List Value} {h : HP} {Q : Option Value → HP → Prop} (i : Fin 4) {x : Nat} (pc' : Nat) (ls' : List (Option Value)) (hd : decode (dB d) pc = .ok (.astore_n i, 1)) (hp : pc + 1 = pc') (hi : (i : Nat) < dN d) (hn : ∀ (j : Nat) (w : Value), j + 1 = (i : Nat) → ls[j]? = some (some w) → w.category = 1) (hs : ls.set (i : Nat) (some (.ref x)) = ls') (k : Wm g d pc' ls' st h Q) : Wm g d pc ls (.ref x :: st) h Q := by
  subst hp
  subst hs
  exact wm_of (fun p e R s m args below meth c cells slots Qf X H locs lsr hR hL hV K => lv_astore_n X.1 X.2.1 hd rfl hV.has hi rfl (fun ls9 h9 => K H locs ls9 hR hL (LV.put1 (v := .ref x) h9 hn))) k
theorem wm_lstore {g : GE} {d : MD} {pc : Nat} {ls : List (Option Value)} {st : List Value} {h : HP} {Q : Option Value → HP → Prop} (i : Nat) {x : Int64} (pc' : Nat) (ls' : List (Option Value)) (hd : decode (dB d) pc = .ok (.lstore i, 2)) (hp : pc + 2 = pc') (hi : i + 1 < dN d) (hn : ∀ (j : Nat) (w : Value), j + 1 = i → ls[j]? = some (some w) → w.category = 1) (hs : (ls.set i (some (.long x))).set (i + 1) none = ls') (k : Wm g d pc' ls' st h Q) : Wm g d pc ls (.long x :: st) h Q := by
  subst hp
  subst hs
  exact wm_of (fun p e R s m args below meth c cells slots Qf X H locs lsr hR hL hV K => lv_lstore X.1 X.2.1 hd hV.has hi rfl (fun ls9 h9 => K H locs ls9 hR hL (LV.put2 (v := .long x) h9 hn))) k
theorem wm_lstore_n {g : GE} {d : MD} {pc : Nat} {ls : List (Option Value)} {st : List Value} {h : HP} {Q : Option Value → HP → Prop} (i : Fin 4) {x : Int64} (pc' : Nat) (ls' : List (Option Value)) (hd : decode (dB d) pc = .ok (.lstore_n i, 1)) (hp : pc + 1 = pc') (hi : (i : Nat) + 1 < dN d) (hn : ∀ (j : Nat) (w : Value), j + 1 = (i : Nat) → ls[j]? = some (some w) → w.category = 1) (hs : (ls.set (i : Nat) (some (.long x))).set ((i : Nat) + 1) none = ls') (k : Wm g d pc' ls' st h Q) : Wm g d pc ls (.long x :: st) h Q := by
  subst hp
  subst hs
  exact wm_of (fun p e R s m args below meth c cells slots Qf X H locs lsr hR hL hV K => lv_lstore_n X.1 X.2.1 hd rfl hV.has hi rfl (fun ls9 h9 => K H locs ls9 hR hL (LV.put2 (v := .long x) h9 hn))) k
theorem wm_iinc {g : GE} {d : MD} {pc : Nat} {ls : List (Option Value)} {st : List Value} {h : HP} {Q : Option Value → HP → Prop} (i : Nat) {n : Int} {x : Int32} (v : Int32) (pc' : Nat) (ls' : List (Option Value)) (hd : decode (dB d) pc = .ok (.iinc i n, 3)) (hp : pc + 3 = pc') (hi : i < dN d) (hl : ls[i]? = some (some (.int x))) (hv : x + Int32.ofInt n = v) (hn : ∀ (j : Nat) (w : Value), j + 1 = i → ls[j]? = some (some w) → w.category = 1) (hs : ls.set i (some (.int v)) = ls') (k : Wm g d pc' ls' st h Q) : Wm g d pc ls st h Q := by
  subst hp
  subst hs
  refine wm_of (fun p e R s m args below meth c cells slots Qf X H locs lsr hR hL hV K => ?_) k
  obtain ⟨q, hq⟩ := List.getElem?_of_mem (lm_mem (g := g).mpr ⟨_, hl, rfl⟩)
  exact lv_iinc X.1 X.2.1 hd hV.has hq hv hi rfl (fun ls9 h9 => K H locs ls9 hR hL (LV.put1 (v := .int v) h9 hn))
theorem wm_goto {g : GE} {d : MD} {pc : Nat} {ls : List (Option Value)} {st : List Value} {h : HP} {Q : Option Value → HP → Prop} {off : Int} (tgt : Nat) (hd : decode (dB d) pc = .ok (.goto off, 3)) (ht : (pc : Int) + off = (tgt : Int)) (k : Wm g d tgt ls st h Q) : Wm g d pc ls st h Q := by
  exact wm_of (fun p e R s m args below meth c cells slots Qf X H locs lsr hR hL hV K => lv_goto X.1 X.2.1 hd ht (K H locs lsr hR hL hV)) k
theorem wm_if_eq {g : GE} {d : MD} {pc : Nat} {ls : List (Option Value)} {st : List Value} {h : HP} {Q : Option Value → HP → Prop} {x : Int32} {off : Int} (pc' tgt : Nat) (hd : decode (dB d) pc = .ok (.ifCond .eq off, 3)) (ht : (pc : Int) + off = (tgt : Int)) (hp : pc + 3 = pc') (kt : x = 0 → Wm g d tgt ls st h Q) (kf : ¬ x = 0 → Wm g d pc' ls st h Q) : Wm g d pc ls (.int x :: st) h Q := by
  subst hp
  intro p e R s m args below meth c cells slots Qf X RET H locs lsr hR hL hV
  exact lv_if_eq X.1 X.2.1 hd ht (fun hx => kt hx p e R s m args below meth c cells slots Qf X RET H locs lsr hR hL hV) (fun hx => kf hx p e R s m args below meth c cells slots Qf X RET H locs lsr hR hL hV)
theorem wm_icmp_eq {g : GE} {d : MD} {pc : Nat} {ls : List (Option Value)} {st : List Value} {h : HP} {Q : Option Value → HP → Prop} {x y : Int32} {off : Int} (pc' tgt : Nat) (hd : decode (dB d) pc = .ok (.if_icmp .eq off, 3)) (ht : (pc : Int) + off = (tgt : Int)) (hp : pc + 3 = pc') (kt : x = y → Wm g d tgt ls st h Q) (kf : ¬ x = y → Wm g d pc' ls st h Q) : Wm g d pc ls (.int y :: .int x :: st) h Q := by
  subst hp
  intro p e R s m args below meth c cells slots Qf X RET H locs lsr hR hL hV
  exact lv_icmp_eq X.1 X.2.1 hd ht (fun hx => kt hx p e R s m args below meth c cells slots Qf X RET H locs lsr hR hL hV) (fun hx => kf hx p e R s m args below meth c cells slots Qf X RET H locs lsr hR hL hV)
theorem wm_if_ne {g : GE} {d : MD} {pc : Nat} {ls : List (Option Value)} {st : List Value} {h : HP} {Q : Option Value → HP → Prop} {x : Int32} {off : Int} (pc' tgt : Nat) (hd : decode (dB d) pc = .ok (.ifCond .ne off, 3)) (ht : (pc : Int) + off = (tgt : Int)) (hp : pc + 3 = pc') (kt : ¬ x = 0 → Wm g d tgt ls st h Q) (kf : x = 0 → Wm g d pc' ls st h Q) : Wm g d pc ls (.int x :: st) h Q := by
  subst hp
  intro p e R s m args below meth c cells slots Qf X RET H locs lsr hR hL hV
  exact lv_if_ne X.1 X.2.1 hd ht (fun hx => kt hx p e R s m args below meth c cells slots Qf X RET H locs lsr hR hL hV) (fun hx => kf hx p e R s m args below meth c cells slots Qf X RET H locs lsr hR hL hV)
theorem wm_icmp_ne {g : GE} {d : MD} {pc : Nat} {ls : List (Option Value)} {st : List Value} {h : HP} {Q : Option Value → HP → Prop} {x y : Int32} {off : Int} (pc' tgt : Nat) (hd : decode (dB d) pc = .ok (.if_icmp .ne off, 3)) (ht : (pc : Int) + off = (tgt : Int)) (hp : pc + 3 = pc') (kt : ¬ x = y → Wm g d tgt ls st h Q) (kf : x = y → Wm g d pc' ls st h Q) : Wm g d pc ls (.int y :: .int x :: st) h Q := by
  subst hp
  intro p e R s m args below meth c cells slots Qf X RET H locs lsr hR hL hV
  exact lv_icmp_ne X.1 X.2.1 hd ht (fun hx => kt hx p e R s m args below meth c cells slots Qf X RET H locs lsr hR hL hV) (fun hx => kf hx p e R s m args below meth c cells slots Qf X RET H locs lsr hR hL hV)
theorem wm_if_lt {g : GE} {d : MD} {pc : Nat} {ls : List (Option Value)} {st : List Value} {h : HP} {Q : Option Value → HP → Prop} {x : Int32} {off : Int} (pc' tgt : Nat) (hd : decode (dB d) pc = .ok (.ifCond .lt off, 3)) (ht : (pc : Int) + off = (tgt : Int)) (hp : pc + 3 = pc') (kt : x < 0 → Wm g d tgt ls st h Q) (kf : ¬ x < 0 → Wm g d pc' ls st h Q) : Wm g d pc ls (.int x :: st) h Q := by
  subst hp
  intro p e R s m args below meth c cells slots Qf X RET H locs lsr hR hL hV
  exact lv_if_lt X.1 X.2.1 hd ht (fun hx => kt hx p e R s m args below meth c cells slots Qf X RET H locs lsr hR hL hV) (fun hx => kf hx p e R s m args below meth c cells slots Qf X RET H locs lsr hR hL hV)
theorem wm_icmp_lt {g : GE} {d : MD} {pc : Nat} {ls : List (Option Value)} {st : List Value} {h : HP} {Q : Option Value → HP → Prop} {x y : Int32} {off : Int} (pc' tgt : Nat) (hd : decode (dB d) pc = .ok (.if_icmp .lt off, 3)) (ht : (pc : Int) + off = (tgt : Int)) (hp : pc + 3 = pc') (kt : x < y → Wm g d tgt ls st h Q) (kf : ¬ x < y → Wm g d pc' ls st h Q) : Wm g d pc ls (.int y :: .int x :: st) h Q := by
  subst hp
  intro p e R s m args below meth c cells slots Qf X RET H locs lsr hR hL hV
  exact lv_icmp_lt X.1 X.2.1 hd ht (fun hx => kt hx p e R s m args below meth c cells slots Qf X RET H locs lsr hR hL hV) (fun hx => kf hx p e R s m args below meth c cells slots Qf X RET H locs lsr hR hL hV)
theorem wm_if_ge {g : GE} {d : MD} {pc : Nat} {ls : List (Option Value)} {st : List Value} {h : HP} {Q : Option Value → HP → Prop} {x : Int32} {off : Int} (pc' tgt : Nat) (hd : decode (dB d) pc = .ok (.ifCond .ge off, 3)) (ht : (pc : Int) + off = (tgt : Int)) (hp : pc + 3 = pc') (kt : 0 ≤ x → Wm g d tgt ls st h Q) (kf : ¬ 0 ≤ x → Wm g d pc' ls st h Q) : Wm g d pc ls (.int x :: st) h Q := by
  subst hp
  intro p e R s m args below meth c cells slots Qf X RET H locs lsr hR hL hV
  exact lv_if_ge X.1 X.2.1 hd ht (fun hx => kt hx p e R s m args below meth c cells slots Qf X RET H locs lsr hR hL hV) (fun hx => kf hx p e R s m args below meth c cells slots Qf X RET H locs lsr hR hL hV)
theorem wm_icmp_ge {g : GE} {d : MD} {pc : Nat} {ls : List (Option Value)} {st : List Value} {h : HP} {Q : Option Value → HP → Prop} {x y : Int32} {off : Int} (pc' tgt : Nat) (hd : decode (dB d) pc = .ok (.if_icmp .ge off, 3)) (ht : (pc : Int) + off = (tgt : Int)) (hp : pc + 3 = pc') (kt : y ≤ x → Wm g d tgt ls st h Q) (kf : ¬ y ≤ x → Wm g d pc' ls st h Q) : Wm g d pc ls (.int y :: .int x :: st) h Q := by
  subst hp
  intro p e R s m args below meth c cells slots Qf X RET H locs lsr hR hL hV
  exact lv_icmp_ge X.1 X.2.1 hd ht (fun hx => kt hx p e R s m args below meth c cells slots Qf X RET H locs lsr hR hL hV) (fun hx => kf hx p e R s m args below meth c cells slots Qf X RET H locs lsr hR hL hV)
theorem wm_if_gt {g : GE} {d : MD} {pc : Nat} {ls : List (Option Value)} {st : List Value} {h : HP} {Q : Option Value → HP → Prop} {x : Int32} {off : Int} (pc' tgt : Nat) (hd : decode (dB d) pc = .ok (.ifCond .gt off, 3)) (ht : (pc : Int) + off = (tgt : Int)) (hp : pc + 3 = pc') (kt : 0 < x → Wm g d tgt ls st h Q) (kf : ¬ 0 < x → Wm g d pc' ls st h Q) : Wm g d pc ls (.int x :: st) h Q := by
  subst hp
  intro p e R s m args below meth c cells slots Qf X RET H locs lsr hR hL hV
  exact lv_if_gt X.1 X.2.1 hd ht (fun hx => kt hx p e R s m args below meth c cells slots Qf X RET H locs lsr hR hL hV) (fun hx => kf hx p e R s m args below meth c cells slots Qf X RET H locs lsr hR hL hV)
theorem wm_icmp_gt {g : GE} {d : MD} {pc : Nat} {ls : List (Option Value)} {st : List Value} {h : HP} {Q : Option Value → HP → Prop} {x y : Int32} {off : Int} (pc' tgt : Nat) (hd : decode (dB d) pc = .ok (.if_icmp .gt off, 3)) (ht : (pc : Int) + off = (tgt : Int)) (hp : pc + 3 = pc') (kt : y < x → Wm g d tgt ls st h Q) (kf : ¬ y < x → Wm g d pc' ls st h Q) : Wm g d pc ls (.int y :: .int x :: st) h Q := by
  subst hp
  intro p e R s m args below meth c cells slots Qf X RET H locs lsr hR hL hV
  exact lv_icmp_gt X.1 X.2.1 hd ht (fun hx => kt hx p e R s m args below meth c cells slots Qf X RET H locs lsr hR hL hV) (fun hx => kf hx p e R s m args below meth c cells slots Qf X RET H locs lsr hR hL hV)
theorem wm_if_le {g : GE} {d : MD} {pc : Nat} {ls : List (Option Value)} {st : List Value} {h : HP} {Q : Option Value → HP → Prop} {x : Int32} {off : Int} (pc' tgt : Nat) (hd : decode (dB d) pc = .ok (.ifCond .le off, 3)) (ht : (pc : Int) + off = (tgt : Int)) (hp : pc + 3 = pc') (kt : x ≤ 0 → Wm g d tgt ls st h Q) (kf : ¬ x ≤ 0 → Wm g d pc' ls st h Q) : Wm g d pc ls (.int x :: st) h Q := by
  subst hp
  intro p e R s m args below meth c cells slots Qf X RET H locs lsr hR hL hV
  exact lv_if_le X.1 X.2.1 hd ht (fun hx => kt hx p e R s m args below meth c cells slots Qf X RET H locs lsr hR hL hV) (fun hx => kf hx p e R s m args below meth c cells slots Qf X RET H locs lsr hR hL hV)
theorem wm_icmp_le {g : GE} {d : MD} {pc : Nat} {ls : List (Option Value)} {st : List Value} {h : HP} {Q : Option Value → HP → Prop} {x y : Int32} {off : Int} (pc' tgt : Nat) (hd : decode (dB d) pc = .ok (.if_icmp .le off, 3)) (ht : (pc : Int) + off = (tgt : Int)) (hp : pc + 3 = pc') (kt : x ≤ y → Wm g d tgt ls st h Q) (kf : ¬ x ≤ y → Wm g d pc' ls st h Q) : Wm g d pc ls (.int y :: .int x :: st) h Q := by
  subst hp
  intro p e R s m args below meth c cells slots Qf X RET H locs lsr hR hL hV
  exact lv_icmp_le X.1 X.2.1 hd ht (fun hx => kt hx p e R s m args below meth c cells slots Qf X RET H locs lsr hR hL hV) (fun hx => kf hx p e R s m args below meth c cells slots Qf X RET H locs lsr hR hL hV)
theorem wm_tin {g : GE} {d : MD} {pc : Nat} {ls : List (Option Value)} {st : List Value} {h : HP} {Q : Option Value → HP → Prop} {x : Int32} {dflt lo hi off : Int} {offs : Array Int} {len : Nat} (v : Int32) (tgt : Nat) (hx : x = v) (hd : decode (dB d) pc = .ok (.tableswitch dflt lo hi offs, len)) (h1 : ¬ v.toInt < lo) (h2 : ¬ hi < v.toInt) (ho : offs[(v.toInt - lo).toNat]? = some off) (ht : (pc : Int) + off = (tgt : Int)) (k : Wm g d tgt ls st h Q) : Wm g d pc ls (.int x :: st) h Q := by
  subst hx
  intro p e R s m args below meth c cells slots Qf X RET H locs lsr hR hL hV
  exact lv_tableIn X.1 X.2.1 hd h1 h2 ho ht (k p e R s m args below meth c cells slots Qf X RET H locs lsr hR hL hV)
theorem wm_tout {g : GE} {d : MD} {pc : Nat} {ls : List (Option Value)} {st : List Value} {h : HP} {Q : Option Value → HP → Prop} {x : Int32} {dflt lo hi : Int} {offs : Array Int} {len : Nat} (tgt : Nat) (hd : decode (dB d) pc = .ok (.tableswitch dflt lo hi offs, len)) (hx : x.toInt < lo ∨ hi < x.toInt) (ht : (pc : Int) + dflt = (tgt : Int)) (k : Wm g d tgt ls st h Q) : Wm g d pc ls (.int x :: st) h Q := by
  intro p e R s m args below meth c cells slots Qf X RET H locs lsr hR hL hV
  exact lv_tableOut X.1 X.2.1 hd hx ht (k p e R s m args below meth c cells slots Qf X RET H locs lsr hR hL hV)
theorem wm_look {g : GE} {d : MD} {pc : Nat} {ls : List (Option Value)} {st : List Value} {h : HP} {Q : Option Value → HP → Prop} {x : Int32} {dflt off : Int} {ps : Array (Int × Int)} {len : Nat} (tgt : Nat) (hd : decode (dB d) pc = .ok (.lookupswitch dflt ps, len)) (hq : (ps.toList.zip (ps.toList.drop 1)).all (fun (a, next) => a.1 < next.1) = true) (ho : Op.lookupswitch.offset ps.toList dflt x.toInt = off) (ht : (pc : Int) + off = (tgt : Int)) (k : Wm g d tgt ls st h Q) : Wm g d pc ls (.int x :: st) h Q := by
  intro p e R s m args below meth c cells slots Qf X RET H locs lsr hR hL hV
  exact lv_lookup X.1 X.2.1 hd hq ho ht (k p e R s m args below meth c cells slots Qf X RET H locs lsr hR hL hV)
theorem ne_toInt {x v : Int32} (n : Int) (hv : v.toInt = n) (hx : ¬ x = v) : ¬ x.toInt = n := fun q => hx (Int32.toInt_inj.mp (q.trans hv.symm))
end
section
/-! classes by their numbers: what the tables say of them -/
theorem mem_r {big : List Cond} (ws : List Cond) (ps : List Nat) (hp : ws = ps.filterMap (fun i => big[i]?)) (hg : ws.all goodWord = true) : ∀ w ∈ ws, w ∈ big.filter goodWord := by
  intro w hw
  have h1 := List.all_eq_true.mp hg w hw
  rw [hp] at hw
  obtain ⟨i, -, hi⟩ := List.mem_filterMap.mp hw
  exact List.mem_filter.mpr ⟨List.mem_of_getElem? hi, h1⟩
theorem in_X0 : ∀ w ∈ u_ws RX0 TX0 10, w ∈ lwg := mem_r _ [189, 191, 193, 195, 197, 199, 201, 203, 205, 207] (by decide +kernel) (by decide +kernel)
theorem in_X1 : ∀ w ∈ u_ws RX1 TX1 17, w ∈ lwg := mem_r _ [271, 273, 275, 277, 279, 281, 283, 285, 287, 289, 291, 293, 295, 297, 299, 301, 303] (by decide +kernel) (by decide +kernel)
theorem in_X2 : ∀ w ∈ u_ws RX2 TX2 3, w ∈ lwg := mem_r _ [381, 383, 385] (by decide +kernel) (by decide +kernel)
theorem in_X3 : ∀ w ∈ u_ws RX3 TX3 3, w ∈ lwg := mem_r _ [142, 144, 146] (by decide +kernel) (by decide +kernel)
theorem in_X4 : ∀ w ∈ u_ws RX4 TX4 7, w ∈ lwg := mem_r _ [321, 323, 325, 327, 329, 331, 333] (by decide +kernel) (by decide +kernel)
theorem in_X5 : ∀ w ∈ u_ws RX5 TX5 7, w ∈ lwg := mem_r _ [351, 353, 355, 357, 359, 361, 363] (by decide +kernel) (by decide +kernel)
theorem in_X6 : ∀ w ∈ u_ws RX6 TX6 6, w ∈ lwg := mem_r _ [235, 237, 239, 241, 243, 245] (by decide +kernel) (by decide +kernel)
theorem in_X7 : ∀ w ∈ u_ws RX7 TX7 9, w ∈ lwg := mem_r _ [398, 400, 402, 404, 406, 408, 410, 412, 414] (by decide +kernel) (by decide +kernel)
theorem in_X8 : ∀ w ∈ u_ws RX8 TX8 40, w ∈ lwg := mem_r _ [1131, 1133, 1135, 1137, 1139, 1141, 1143, 1145, 1147, 1149, 1151, 1153, 1155, 1157, 1159, 1161, 1163, 1165, 1167, 1169, 1171, 1173, 1175, 1177, 1179, 1181, 1183, 1185, 1187, 1189, 1191, 1193, 1195, 1197, 1199, 1201, 1203, 1205, 1207, 1209] (by decide +kernel) (by decide +kernel)
def tyC : Nat → Nat → FieldType
  | 0 => tyX0
  | 1 => tyX1
  | 2 => tyX2
  | 3 => tyX3
  | 4 => tyX4
  | 5 => tyX5
  | 6 => tyX6
  | 7 => tyX7
  | _ => tyX8
theorem cls_ok : ∀ (ci : Nat) (q : vw_C), vwCl[ci]? = some q → (∀ w ∈ u_ws q.1 q.2.1 q.2.2, w ∈ lwg) ∧ (∀ k, k < q.2.2 → parseFieldDescriptor (q.2.1 k).2.2.1 = some (tyC ci k)) ∧ (∀ a, a < q.2.2 → ∀ b, b < q.2.2 → a ≠ b → (q.2.1 a).2.1 ≠ (q.2.1 b).2.1)
  | 0, _, h => by cases h; exact ⟨in_X0, tyX0_ok, nmX0⟩
  | 1, _, h => by cases h; exact ⟨in_X1, tyX1_ok, nmX1⟩
  | 2, _, h => by cases h; exact ⟨in_X2, tyX2_ok, nmX2⟩
  | 3, _, h => by cases h; exact ⟨in_X3, tyX3_ok, nmX3⟩
  | 4, _, h => by cases h; exact ⟨in_X4, tyX4_ok, nmX4⟩
  | 5, _, h => by cases h; exact ⟨in_X5, tyX5_ok, nmX5⟩
  | 6, _, h => by cases h; exact ⟨in_X6, tyX6_ok, nmX6⟩
  | 7, _, h => by cases h; exact ⟨in_X7, tyX7_ok, nmX7⟩
  | 8, _, h => by cases h; exact ⟨in_X8, tyX8_ok, nmX8⟩
  | n + 9, _, h => by cases h
/-- an entry of a class's pool that names field k of class ci -/
def FL (own : String) (i ci k : Nat) : Prop := ∃ q : vw_C, vwCl[ci]? = some q ∧ k < q.2.2 ∧ Cond.fieldLink own i (q.2.1 k).1 (q.2.1 k).2.1 (q.2.1 k).2.2.1 ∈ lwg
theorem adr_lt {g : GE} {i : Nat} (h : i < 5000) : adr g i = gB g + i := if_pos h
theorem cellE_obj {g : GE} {h : HP} {i ci : Nat} (hk : kd i = ci) (hc : ci < 10) : cellE g h i = .inr (ci, objF g h i (fc ci)) := by
  unfold cellE
  rw [hk, if_pos hc]
theorem objF_get {g : GE} {h : HP} {i k c : Nat} {cs : List Nat} (hc : cs[k]? = some c) : (objF g h i cs)[k]? = some (fv g h i k c) := by
  simp [objF, List.getElem?_mapIdx, hc]
theorem vwCl_lt {ci : Nat} {q : vw_C} (h : vwCl[ci]? = some q) : ci < 9 := (List.getElem?_eq_some_iff.mp h).1
theorem gi_si {h : HP} {a k x j : Nat} {v : Int32} : gi (si h a k v) x j = if x = a ∧ j = k then v else gi h x j := rfl
theorem gl_si {h : HP} {a k x j : Nat} {v : Int32} : gl (si h a k v) x j = gl h x j := rfl
theorem gw_si {h : HP} {a k j : Nat} {v : Int32} : gw (si h a k v) j = gw h j := rfl
theorem gi_sl {h : HP} {a k x j : Nat} {v : Int64} : gi (sl h a k v) x j = gi h x j := rfl
theorem gl_sl {h : HP} {a k x j : Nat} {v : Int64} : gl (sl h a k v) x j = if x = a ∧ j = k then v else gl h x j := rfl
theorem gw_sl {h : HP} {a k j : Nat} {v : Int64} : gw (sl h a k v) j = gw h j := rfl
theorem gi_sw {h : HP} {k x j v : Nat} : gi (sw h k v) x j = gi h x j := rfl
theorem gl_sw {h : HP} {k x j v : Nat} : gl (sw h k v) x j = gl h x j := rfl
theorem gw_sw {h : HP} {k j v : Nat} : gw (sw h k v) j = if j = k then v else gw h j := rfl
theorem gi_cpi {h : HP} {a b sp dp n x j : Nat} : gi (cpi h a b sp dp n) x j = if x = b ∧ dp ≤ j ∧ j < dp + n then gi h a (sp + (j - dp)) else gi h x j := rfl
theorem gl_cpi {h : HP} {a b sp dp n x j : Nat} : gl (cpi h a b sp dp n) x j = gl h x j := rfl
theorem gw_cpi {h : HP} {a b sp dp n j : Nat} : gw (cpi h a b sp dp n) j = gw h j := rfl
theorem gi_cpl {h : HP} {a b sp dp n x j : Nat} : gi (cpl h a b sp dp n) x j = gi h x j := rfl
theorem gl_cpl {h : HP} {a b sp dp n x j : Nat} : gl (cpl h a b sp dp n) x j = if x = b ∧ dp ≤ j ∧ j < dp + n then gl h a (sp + (j - dp)) else gl h x j := rfl
theorem gw_cpl {h : HP} {a b sp dp n j : Nat} : gw (cpl h a b sp dp n) j = gw h j := rfl
/-- two heaps that agree on a cell -/
theorem cellE_congr {g : GE} {h h' : HP} {i : Nat} (h1 : ∀ j, gi h' i j = gi h i j) (h2 : ∀ j, gl h' i j = gl h i j) (h3 : kd i = 1 → gw h' 0 = gw h 0) (h4 : kd i = 4 → gw h' 1 = gw h 1) : cellE g h' i = cellE g h i := by
  have e1 : gi h' i = gi h i := funext h1
  have e2 : gl h' i = gl h i := funext h2
  unfold cellE
  rw [e1, e2]
  by_cases hk : kd i < 10
  · rw [if_pos hk, if_pos hk]
    congr 2
    unfold objF
    apply List.ext_getElem?
    intro k
    simp only [List.getElem?_mapIdx]
    cases hc : (fc (kd i))[k]? with
    | none => rfl
    | some c =>
      simp only [Option.map_some]
      congr 1
      match c, hc with
      | 0, _ => show Value.int (gi h' i k) = Value.int (gi h i k); rw [h1]
      | 1, hc =>
        have hz : kd i = 1 := by
          have : ∀ n, n < 10 → ∀ m, m < 40 → (fc n)[m]? = some 1 → n = 1 := by decide +kernel
          refine this _ hk k ?_ hc
          have := (List.getElem?_eq_some_iff.mp hc).1
          have h40 : ∀ n, n < 10 → (fc n).length ≤ 40 := by decide +kernel
          have := h40 _ hk
          omega
        show (if gw h' 0 = 0 then _ else _) = _
        rw [h3 hz]
        rfl
      | 2, hc =>
        have hz : kd i = 4 := by
          have : ∀ n, n < 10 → ∀ m, m < 40 → (fc n)[m]? = some 2 → n = 4 := by decide +kernel
          refine this _ hk k ?_ hc
          have := (List.getElem?_eq_some_iff.mp hc).1
          have h40 : ∀ n, n < 10 → (fc n).length ≤ 40 := by decide +kernel
          have := h40 _ hk
          omega
        show (if gw h' 1 = 0 then _ else _) = _
        rw [h4 hz]
        rfl
      | n + 3, _ => rfl
  · rw [if_neg hk, if_neg hk]
theorem wd_si {g : GE} {h : HP} {a k : Nat} {v : Int32} {e : va_E} (he : cellE g (si h a k v) a = e) : (wd g h).set a (gB g + a, e) = wd g (si h a k v) := by
  refine wd_set he (fun j _ hj => cellE_congr (fun n => ?_) (fun _ => rfl) (fun _ => rfl) (fun _ => rfl))
  rw [gi_si, if_neg (fun q => hj q.1)]
theorem wd_sl {g : GE} {h : HP} {a k : Nat} {v : Int64} {e : va_E} (he : cellE g (sl h a k v) a = e) : (wd g h).set a (gB g + a, e) = wd g (sl h a k v) := by
  refine wd_set he (fun j _ hj => cellE_congr (fun _ => rfl) (fun n => ?_) (fun _ => rfl) (fun _ => rfl))
  rw [gl_sl, if_neg (fun q => hj q.1)]
theorem Rep.S {g : GE} {h : HP} {H : Heap} {locs : List Loc} (hL : LO g locs) : va_S (frA g) H H locs := ⟨Nat.le_refl _, fun _ _ _ => rfl, hL⟩
theorem Rep.after {g : GE} {h h' : HP} {H H1 : Heap} {locs1 : List Loc} (hR : Rep g h H) (hP : va_P (gC g, gS g) vwCl (wd g h') H1) (hS : va_S (frA g) H H1 locs1) : Rep g h' H1 ∧ LO g locs1 := by
  refine ⟨⟨hP, Nat.le_trans hR.2.1 hS.1, fun q hq => ?_⟩, hS.2.2⟩
  rw [hS.2.1 q (Nat.lt_of_lt_of_le hq hR.2.1) (Nat.not_le.mpr hq)]
  exact hR.2.2 q hq
/-- a number in a field is read -/
theorem wm_geti {g : GE} {d : MD} {pc : Nat} {ls : List (Option Value)} {st : List Value} {h : HP} {Q : Option Value → HP → Prop} {i x : Nat} (ci k : Nat) (pc' : Nat) (hf : FL (dO d) i ci k) (hd : decode (dB d) pc = .ok (.getfield i, 3)) (hp : pc + 3 = pc') (hx : kd x = ci) (hc : (fc ci)[k]? = some 0) (kk : Wm g d pc' ls (.int (gi h x k) :: st) h Q) : Wm g d pc ls (.ref x :: st) h Q := by
  subst hp
  refine wm_of (fun p e R s m args below meth c cells slots Qf X H locs lsr hR hL hV K => ?_) kk
  obtain ⟨q, hq, hk, hl⟩ := hf
  have hci : ci < 9 := vwCl_lt hq
  have hx2 := kd_lt hx (by omega)
  have e1 : (Value.ref x :: st).map (cv g) = .ref (gB g + x) :: st.map (cv g) := by
    show Value.ref (adr g x) :: _ = _
    rw [adr_lt (by omega)]
  rw [e1]
  refine va_get (D := (gC g, gS g)) (C := q.1) (T := q.2.1) (N := q.2.2) (v := .int (gi h x k)) X.1 X.2.1 X.2.2.2.2.1 (cls_ok ci q hq).1 X.2.2.2.1 X.2.2.2.2.2.1.1 hR.1 x (wd_get hx2 |>.trans (by rw [cellE_obj hx (by omega)])) hq k hk (X.2.2.2.2.1 _ hl) (fun _ h9 => h9) (objF_get hc) hd ?_
  exact K H locs lsr hR hL hV
/-- a reference that never changes is read -/
theorem wm_getr {g : GE} {d : MD} {pc : Nat} {ls : List (Option Value)} {st : List Value} {h : HP} {Q : Option Value → HP → Prop} {i x : Nat} (ci k n : Nat) (y : Nat) (pc' : Nat) (hf : FL (dO d) i ci k) (hd : decode (dB d) pc = .ok (.getfield i, 3)) (hp : pc + 3 = pc') (hx : kd x = ci) (hc : (fc ci)[k]? = some (n + 3)) (hy : x + n = y) (hn : n < 1000) (kk : Wm g d pc' ls (.ref y :: st) h Q) : Wm g d pc ls (.ref x :: st) h Q := by
  subst hp
  subst hy
  refine wm_of (fun p e R s m args below meth c cells slots Qf X H locs lsr hR hL hV K => ?_) kk
  obtain ⟨q, hq, hk, hl⟩ := hf
  have hci : ci < 9 := vwCl_lt hq
  have hx2 := kd_lt hx (by omega)
  have e1 : (Value.ref x :: st).map (cv g) = .ref (gB g + x) :: st.map (cv g) := by
    show Value.ref (adr g x) :: _ = _
    rw [adr_lt (by omega)]
  have e2 : (Value.ref (x + n) :: st).map (cv g) = .ref (gB g + (x + n)) :: st.map (cv g) := by
    show Value.ref (adr g (x + n)) :: _ = _
    rw [adr_lt (by omega)]
  rw [e1]
  refine va_get (D := (gC g, gS g)) (C := q.1) (T := q.2.1) (N := q.2.2) (v := .ref (gB g + (x + n))) X.1 X.2.1 X.2.2.2.2.1 (cls_ok ci q hq).1 X.2.2.2.1 X.2.2.2.2.2.1.1 hR.1 x (wd_get hx2 |>.trans (by rw [cellE_obj hx (by omega)])) hq k hk (X.2.2.2.2.1 _ hl) (fun _ h9 => h9) (objF_get hc) hd ?_
  have K1 := K H locs lsr hR hL hV
  rw [e2] at K1
  exact K1
/-- the world that the network (j 0) or the stream (j 1) looks at is read -/
theorem wm_getw {g : GE} {d : MD} {pc : Nat} {ls : List (Option Value)} {st : List Value} {h : HP} {Q : Option Value → HP → Prop} {i x : Nat} (ci j : Nat) (pc' : Nat) (hf : FL (dO d) i ci 0) (hd : decode (dB d) pc = .ok (.getfield i, 3)) (hp : pc + 3 = pc') (hx : kd x = ci) (hc : (fc ci)[0]? = some (j + 1)) (hj : j < 2) (hw : kd (gw h j) = 6) (kk : Wm g d pc' ls (.ref (gw h j) :: st) h Q) : Wm g d pc ls (.ref x :: st) h Q := by
  subst hp
  refine wm_of (fun p e R s m args below meth c cells slots Qf X H locs lsr hR hL hV K => ?_) kk
  obtain ⟨q, hq, hk, hl⟩ := hf
  have hci : ci < 9 := vwCl_lt hq
  have hx2 := kd_lt hx (by omega)
  have hw2 := kd_lt hw (by omega)
  have hw0 : gw h j ≠ 0 := by
    intro z
    rw [z] at hw
    exact absurd hw (by decide +kernel)
  have e1 : (Value.ref x :: st).map (cv g) = .ref (gB g + x) :: st.map (cv g) := by
    show Value.ref (adr g x) :: _ = _
    rw [adr_lt (by omega)]
  have e2 : (Value.ref (gw h j) :: st).map (cv g) = .ref (gB g + gw h j) :: st.map (cv g) := by
    show Value.ref (adr g (gw h j)) :: _ = _
    rw [adr_lt (by omega)]
  rw [e1]
  refine va_get (D := (gC g, gS g)) (C := q.1) (T := q.2.1) (N := q.2.2) (v := .ref (gB g + gw h j)) X.1 X.2.1 X.2.2.2.2.1 (cls_ok ci q hq).1 X.2.2.2.1 X.2.2.2.2.2.1.1 hR.1 x (wd_get hx2 |>.trans (by rw [cellE_obj hx (by omega)])) hq 0 hk (X.2.2.2.2.1 _ hl) (fun _ h9 => h9) ((objF_get hc).trans ?_) hd ?_
  · have : j = 0 ∨ j = 1 := by omega
    rcases this with rfl | rfl
    · show some (if gw h 0 = 0 then _ else _) = _
      rw [if_neg hw0]
    · show some (if gw h 1 = 0 then _ else _) = _
      rw [if_neg hw0]
  · have K1 := K H locs lsr hR hL hV
    rw [e2] at K1
    exact K1
/-- a number comes into a field -/
theorem wm_puti {g : GE} {d : MD} {pc : Nat} {ls : List (Option Value)} {st : List Value} {h : HP} {Q : Option Value → HP → Prop} {i x : Nat} {v : Int32} (ci k : Nat) (pc' : Nat) (hf : FL (dO d) i ci k) (hd : decode (dB d) pc = .ok (.putfield i, 3)) (hp : pc + 3 = pc') (hx : kd x = ci) (hc : (fc ci)[k]? = some 0) (hfin : (vwCl.map (fun q => (q.2.1 k).2.2.2))[ci]? = some false) (hn : narrow (tyC ci k) (.int v) = .int v ∧ fits (tyC ci k) (.int v) = true) (kk : Wm g d pc' ls st (si h x k v) Q) : Wm g d pc ls (.int v :: .ref x :: st) h Q := by
  subst hp
  refine wm_of (fun p e R s m args below meth c cells slots Qf X H locs lsr hR hL hV K => ?_) kk
  obtain ⟨q, hq, hk, hl⟩ := hf
  have hci : ci < 9 := vwCl_lt hq
  have hx2 := kd_lt hx (by omega)
  have hfin2 : (q.2.1 k).2.2.2 = false := by
    rw [List.getElem?_map, hq] at hfin
    exact Option.some.inj hfin
  have e1 : (Value.int v :: Value.ref x :: st).map (cv g) = .int v :: .ref (gB g + x) :: st.map (cv g) := by
    show _ :: Value.ref (adr g x) :: _ = _
    rw [adr_lt (by omega)]
    rfl
  rw [e1]
  have hlen : k < (objF g h x (fc ci)).length := by
    have := (List.getElem?_eq_some_iff.mp hc).1
    simpa [objF] using this
  refine va_put (D := (gC g, gS g)) (C := q.1) (T := q.2.1) (N := q.2.2) (v := .int v) (ty := tyC ci k) X.1 X.2.1 X.2.2.2.2.1 (cls_ok ci q hq).1 (tyC ci) (cls_ok ci q hq).2.1 (cls_ok ci q hq).2.2 X.2.2.2.1 X.2.2.2.2.2.1.1 hR.1 (wd_D g h) (Rep.S (h := h) hL) x (wd_get hx2 |>.trans (by rw [cellE_obj hx (by omega)])) hq k hk (X.2.2.2.2.1 _ hl) (fun _ h9 => h9) hfin2 ((cls_ok ci q hq).2.1 k hk) hn.1 hn.2 hlen hd (fun H1 locs1 hP1 _ hS1 => ?_)
  rw [wd_si (k := k) (v := v)] at hP1
  · obtain ⟨r1, r2⟩ := hR.after hP1 hS1
    exact K H1 locs1 lsr r1 r2 hV
  · rw [cellE_obj hx (by omega)]
    congr 2
    apply List.ext_getElem?
    intro j
    by_cases hj : j = k
    · subst hj
      rw [List.getElem?_set_self hlen, objF_get hc]
      show some (Value.int (gi (si h x j v) x j)) = _
      rw [gi_si, if_pos ⟨rfl, rfl⟩]
    · rw [List.getElem?_set_ne (fun q => hj q.symm)]
      simp only [objF, List.getElem?_mapIdx]
      cases hcj : (fc ci)[j]? with
      | none => rfl
      | some cj =>
        simp only [Option.map_some]
        congr 1
        match cj with
        | 0 =>
          show Value.int (gi (si h x k v) x j) = Value.int (gi h x j)
          rw [gi_si, if_neg (fun q => hj q.2)]
        | 1 => rfl
        | 2 => rfl
        | n + 3 => rfl
end
section
/-! arrays -/
theorem cellE_i {g : GE} {h : HP} {i : Nat} (hk : kd i = 10) : cellE g h i = .inl (gA g 0, kn i, .inl (gi h i)) := by
  unfold cellE
  rw [hk]
  rfl
theorem cellE_c {g : GE} {h : HP} {i : Nat} (hk : kd i = 11) : cellE g h i = .inl (gA g 1, kn i, .inl (gi h i)) := by
  unfold cellE
  rw [hk]
  rfl
theorem cellE_l {g : GE} {h : HP} {i : Nat} (hk : kd i = 12) : cellE g h i = .inl (gA g 2, kn i, .inr (.inl (gl h i))) := by
  unfold cellE
  rw [hk]
  rfl
theorem cellE_s {g : GE} {h : HP} {i : Nat} (hk : kd i = 13) : cellE g h i = .inl (gA g 3, kn i, .inr (.inr (.inr (.inr (fun j => some (gB g + (i + 2 + j))))))) := by
  unfold cellE
  rw [hk]
  rfl
theorem cellE_n {g : GE} {h : HP} {i : Nat} (hk : kd i = 14) : cellE g h i = .inl (gA g 4, kn i, .inr (.inr (.inr (.inr (fun j => some (gB g + (i + 7 + 2 * j))))))) := by
  unfold cellE
  rw [hk]
  rfl
theorem cellE_h {g : GE} {h : HP} {i : Nat} (hk : kd i = 15) : cellE g h i = .inl (gA g 5, kn i, .inr (.inr (.inr (.inr (fun j => some (gB g + (i + 2 + 2 * j))))))) := by
  unfold cellE
  rw [hk]
  rfl
theorem kn_le : ∀ i, i < 146 → kn i ≤ 1068 := by decide +kernel
theorem ref_map {g : GE} {x : Nat} (st : List Value) (h : x < 5000) : (Value.ref x :: st).map (cv g) = .ref (gB g + x) :: st.map (cv g) := by
  show Value.ref (adr g x) :: _ = _
  rw [adr_lt h]
abbrev ix (i : Int32) : Nat := i.toNatClampNeg
theorem vp_in_lt {i : Int32} {n : Nat} (h : vp_in i n) : ix i < n := Nat.not_le.mp fun q => h (Or.inr q)
theorem wm_iald {g : GE} {d : MD} {pc : Nat} {ls : List (Option Value)} {st : List Value} {h : HP} {Q : Option Value → HP → Prop} {a : Nat} {i : Int32} (n : Nat) (pc' : Nat) (hd : decode (dB d) pc = .ok (.iaload, 1)) (hp : pc + 1 = pc') (ha : kd a = 10) (hn : kn a = n) (hi : vp_in i n) (kk : Wm g d pc' ls (.int (gi h a (ix i)) :: st) h Q) : Wm g d pc ls (.int i :: .ref a :: st) h Q := by
  subst hp
  refine wm_of (fun p e R s m args below meth c cells slots Qf X H locs lsr hR hL hV K => ?_) kk
  have ha2 := kd_lt ha (by omega)
  rw [List.map_cons, ref_map st (by omega)]
  exact va_iald X.1 X.2.1 X.2.2.2.2.2.1.1 hR.1 a 0 ((wd_get ha2).trans (by rw [cellE_i ha, hn])) rfl hi hd (K H locs lsr hR hL hV)
theorem wm_cald {g : GE} {d : MD} {pc : Nat} {ls : List (Option Value)} {st : List Value} {h : HP} {Q : Option Value → HP → Prop} {a : Nat} {i : Int32} (n : Nat) (pc' : Nat) (hd : decode (dB d) pc = .ok (.caload, 1)) (hp : pc + 1 = pc') (ha : kd a = 11) (hn : kn a = n) (hi : vp_in i n) (kk : Wm g d pc' ls (.int (gi h a (ix i)) :: st) h Q) : Wm g d pc ls (.int i :: .ref a :: st) h Q := by
  subst hp
  refine wm_of (fun p e R s m args below meth c cells slots Qf X H locs lsr hR hL hV K => ?_) kk
  have ha2 := kd_lt ha (by omega)
  rw [List.map_cons, ref_map st (by omega)]
  exact va_cald X.1 X.2.1 X.2.2.2.2.2.1.1 hR.1 a 1 ((wd_get ha2).trans (by rw [cellE_c ha, hn])) rfl hi hd (K H locs lsr hR hL hV)
theorem wm_lald {g : GE} {d : MD} {pc : Nat} {ls : List (Option Value)} {st : List Value} {h : HP} {Q : Option Value → HP → Prop} {a : Nat} {i : Int32} (n : Nat) (pc' : Nat) (hd : decode (dB d) pc = .ok (.laload, 1)) (hp : pc + 1 = pc') (ha : kd a = 12) (hn : kn a = n) (hi : vp_in i n) (kk : Wm g d pc' ls (.long (gl h a (ix i)) :: st) h Q) : Wm g d pc ls (.int i :: .ref a :: st) h Q := by
  subst hp
  refine wm_of (fun p e R s m args below meth c cells slots Qf X H locs lsr hR hL hV K => ?_) kk
  have ha2 := kd_lt ha (by omega)
  rw [List.map_cons, ref_map st (by omega)]
  exact va_lald X.1 X.2.1 X.2.2.2.2.2.1.1 hR.1 a 2 ((wd_get ha2).trans (by rw [cellE_l ha, hn])) rfl hi hd (K H locs lsr hR hL hV)
/-- an object out of a row: stations, lines, sheets -/
theorem wm_aald {g : GE} {d : MD} {pc : Nat} {ls : List (Option Value)} {st : List Value} {h : HP} {Q : Option Value → HP → Prop} {a : Nat} {i : Int32} (n : Nat) (y : Nat) (pc' : Nat) (hd : decode (dB d) pc = .ok (.aaload, 1)) (hp : pc + 1 = pc') (ha : (kd a = 13 ∧ a + 2 + ix i = y) ∨ (kd a = 14 ∧ a + 7 + 2 * ix i = y) ∨ (kd a = 15 ∧ a + 2 + 2 * ix i = y)) (hn : kn a = n) (hi : vp_in i n) (kk : Wm g d pc' ls (.ref y :: st) h Q) : Wm g d pc ls (.int i :: .ref a :: st) h Q := by
  subst hp
  refine wm_of (fun p e R s m args below meth c cells slots Qf X H locs lsr hR hL hV K => ?_) kk
  have ha2 : a < 146 := by
    rcases ha with h9 | h9 | h9 <;> exact kd_lt h9.1 (by omega)
  have hkn := kn_le a ha2
  have hil := vp_in_lt hi
  have K1 := K H locs lsr hR hL hV
  rw [ref_map st (by omega)] at K1
  rw [List.map_cons, ref_map st (by omega)]
  rcases ha with ⟨h9, e9⟩ | ⟨h9, e9⟩ | ⟨h9, e9⟩
  · exact va_aldq (C := RX3) X.1 X.2.1 X.2.2.2.2.2.1.1 hR.1 a 3 ((wd_get ha2).trans (by rw [cellE_s h9, hn])) rfl hi hd (by rw [← e9] at K1; exact K1)
  · exact va_aldq (C := RX0) X.1 X.2.1 X.2.2.2.2.2.1.1 hR.1 a 4 ((wd_get ha2).trans (by rw [cellE_n h9, hn])) rfl hi hd (by rw [← e9] at K1; exact K1)
  · exact va_aldq (C := RX2) X.1 X.2.1 X.2.2.2.2.2.1.1 hR.1 a 5 ((wd_get ha2).trans (by rw [cellE_h h9, hn])) rfl hi hd (by rw [← e9] at K1; exact K1)
theorem wm_alen {g : GE} {d : MD} {pc : Nat} {ls : List (Option Value)} {st : List Value} {h : HP} {Q : Option Value → HP → Prop} {a : Nat} (v : Int32) (pc' : Nat) (hd : decode (dB d) pc = .ok (.arraylength, 1)) (hp : pc + 1 = pc') (ha : kd a = 10 ∨ kd a = 12) (hn : Int32.ofNat (kn a) = v) (kk : Wm g d pc' ls (.int v :: st) h Q) : Wm g d pc ls (.ref a :: st) h Q := by
  subst hp
  refine wm_of (fun p e R s m args below meth c cells slots Qf X H locs lsr hR hL hV K => ?_) kk
  have ha2 : a < 146 := by
    rcases ha with h9 | h9 <;> exact kd_lt h9 (by omega)
  rw [ref_map st (by omega)]
  rcases ha with h9 | h9
  · exact va_alen (ty := .int) X.1 X.2.1 X.2.2.2.2.2.1.1 hR.1 a 0 ((wd_get ha2).trans (by rw [cellE_i h9])) rfl hn hd (K H locs lsr hR hL hV)
  · exact va_alen (ty := .long) X.1 X.2.1 X.2.2.2.2.2.1.1 hR.1 a 2 ((wd_get ha2).trans (by rw [cellE_l h9])) rfl hn hd (K H locs lsr hR hL hV)
theorem wm_iast {g : GE} {d : MD} {pc : Nat} {ls : List (Option Value)} {st : List Value} {h : HP} {Q : Option Value → HP → Prop} {a : Nat} {i x : Int32} (n : Nat) (pc' : Nat) (hd : decode (dB d) pc = .ok (.iastore, 1)) (hp : pc + 1 = pc') (ha : kd a = 10) (hn : kn a = n) (hi : vp_in i n) (kk : Wm g d pc' ls st (si h a (ix i) x) Q) : Wm g d pc ls (.int x :: .int i :: .ref a :: st) h Q := by
  subst hp
  refine wm_of (fun p e R s m args below meth c cells slots Qf X H locs lsr hR hL hV K => ?_) kk
  have ha2 := kd_lt ha (by omega)
  rw [List.map_cons, List.map_cons, ref_map st (by omega)]
  refine va_iast X.1 X.2.1 X.2.2.2.2.2.1.1 hR.1 (wd_D g h) (Rep.S (h := h) hL) a 0 ((wd_get ha2).trans (by rw [cellE_i ha, hn])) rfl hi hd (fun H1 locs1 hP1 _ hS1 => ?_)
  rw [wd_si (k := ix i) (v := x)] at hP1
  · obtain ⟨r1, r2⟩ := hR.after hP1 hS1
    exact K H1 locs1 lsr r1 r2 hV
  · rw [cellE_i ha, hn]
    congr 4
    funext j
    show gi (si h a (ix i) x) a j = if j = ix i then x else gi h a j
    rw [gi_si]
    by_cases hj : j = ix i
    · rw [if_pos ⟨rfl, hj⟩, if_pos hj]
    · rw [if_neg (fun q => hj q.2), if_neg hj]
theorem wm_last {g : GE} {d : MD} {pc : Nat} {ls : List (Option Value)} {st : List Value} {h : HP} {Q : Option Value → HP → Prop} {a : Nat} {i : Int32} {x : Int64} (n : Nat) (pc' : Nat) (hd : decode (dB d) pc = .ok (.lastore, 1)) (hp : pc + 1 = pc') (ha : kd a = 12) (hn : kn a = n) (hi : vp_in i n) (kk : Wm g d pc' ls st (sl h a (ix i) x) Q) : Wm g d pc ls (.long x :: .int i :: .ref a :: st) h Q := by
  subst hp
  refine wm_of (fun p e R s m args below meth c cells slots Qf X H locs lsr hR hL hV K => ?_) kk
  have ha2 := kd_lt ha (by omega)
  rw [List.map_cons, List.map_cons, ref_map st (by omega)]
  refine va_last X.1 X.2.1 X.2.2.2.2.2.1.1 hR.1 (wd_D g h) (Rep.S (h := h) hL) a 2 ((wd_get ha2).trans (by rw [cellE_l ha, hn])) rfl hi hd (fun H1 locs1 hP1 _ hS1 => ?_)
  rw [wd_sl (k := ix i) (v := x)] at hP1
  · obtain ⟨r1, r2⟩ := hR.after hP1 hS1
    exact K H1 locs1 lsr r1 r2 hV
  · rw [cellE_l ha, hn]
    congr 5
    funext j
    show gl (sl h a (ix i) x) a j = if j = ix i then x else gl h a j
    rw [gl_sl]
    by_cases hj : j = ix i
    · rw [if_pos ⟨rfl, hj⟩, if_pos hj]
    · rw [if_neg (fun q => hj q.2), if_neg hj]
theorem kd_one : ∀ i, i < 146 → (kd i = 1 → i = 88) ∧ (kd i = 4 → i = 99) := by decide +kernel
/-- the network, or the stream, looks at another world -/
theorem wm_putw {g : GE} {d : MD} {pc : Nat} {ls : List (Option Value)} {st : List Value} {h : HP} {Q : Option Value → HP → Prop} {i x w : Nat} (ci j : Nat) (pc' : Nat) (hf : FL (dO d) i ci 0) (hd : decode (dB d) pc = .ok (.putfield i, 3)) (hp : pc + 3 = pc') (hx : kd x = ci) (hcj : (ci = 1 ∧ j = 0) ∨ (ci = 4 ∧ j = 1)) (hw : kd w = 6) (kk : Wm g d pc' ls st (sw h j w) Q) : Wm g d pc ls (.ref w :: .ref x :: st) h Q := by
  subst hp
  refine wm_of (fun p e R s m args below meth c cells slots Qf X H locs lsr hR hL hV K => ?_) kk
  obtain ⟨q, hq, hk, hl⟩ := hf
  have hci : ci < 9 := vwCl_lt hq
  have hx2 := kd_lt hx (by omega)
  have hw2 := kd_lt hw (by omega)
  have hw0 : w ≠ 0 := by
    intro z
    rw [z] at hw
    exact absurd hw (by decide +kernel)
  have hfin2 : (q.2.1 0).2.2.2 = false := by
    rcases hcj with ⟨rfl, rfl⟩ | ⟨rfl, rfl⟩ <;> (cases hq; rfl)
  have hty : tyC ci 0 = .object "GoodsUnderWay$World" := by
    rcases hcj with ⟨rfl, rfl⟩ | ⟨rfl, rfl⟩ <;> rfl
  have hc : (fc ci)[0]? = some (j + 1) := by
    rcases hcj with ⟨rfl, rfl⟩ | ⟨rfl, rfl⟩ <;> rfl
  rw [List.map_cons, ref_map st (by omega)]
  have e2 : cv g (.ref w) = .ref (gB g + w) := by
    show Value.ref (adr g w) = _
    rw [adr_lt (by omega)]
  rw [e2]
  have hlen : 0 < (objF g h x (fc ci)).length := by
    have := (List.getElem?_eq_some_iff.mp hc).1
    simpa [objF] using this
  refine va_put (D := (gC g, gS g)) (C := q.1) (T := q.2.1) (N := q.2.2) (v := .ref (gB g + w)) (ty := tyC ci 0) X.1 X.2.1 X.2.2.2.2.1 (cls_ok ci q hq).1 (tyC ci) (cls_ok ci q hq).2.1 (cls_ok ci q hq).2.2 X.2.2.2.1 X.2.2.2.2.2.1.1 hR.1 (wd_D g h) (Rep.S (h := h) hL) x (wd_get hx2 |>.trans (by rw [cellE_obj hx (by omega)])) hq 0 hk (X.2.2.2.2.1 _ hl) (fun _ h9 => h9) hfin2 ((cls_ok ci q hq).2.1 0 hk) (by rw [hty]; rfl) (by rw [hty]; rfl) hlen hd (fun H1 locs1 hP1 _ hS1 => ?_)
  have hset : (wd g h).set x (gB g + x, .inr (ci, (objF g h x (fc ci)).set 0 (.ref (gB g + w)))) = wd g (sw h j w) := by
    apply wd_set
    · rw [cellE_obj hx (by omega)]
      congr 2
      apply List.ext_getElem?
      intro k
      by_cases hj : k = 0
      · subst hj
        rw [List.getElem?_set_self hlen, objF_get hc]
        rcases hcj with ⟨rfl, rfl⟩ | ⟨rfl, rfl⟩
        · show some (if gw (sw h 0 w) 0 = 0 then _ else Value.ref (gB g + gw (sw h 0 w) 0)) = _
          rw [gw_sw, if_pos rfl, if_neg hw0]
        · show some (if gw (sw h 1 w) 1 = 0 then _ else Value.ref (gB g + gw (sw h 1 w) 1)) = _
          rw [gw_sw, if_pos rfl, if_neg hw0]
      · rw [List.getElem?_set_ne (fun q => hj q.symm)]
        simp only [objF, List.getElem?_mapIdx]
        cases hck : (fc ci)[k]? with
        | none => rfl
        | some ck =>
          simp only [Option.map_some]
          congr 1
          have hno : ck ≠ 1 ∧ ck ≠ 2 := by
            have : ∀ m, m < 40 → m ≠ 0 → (fc 1)[m]? ≠ some 1 ∧ (fc 1)[m]? ≠ some 2 ∧ (fc 4)[m]? ≠ some 1 ∧ (fc 4)[m]? ≠ some 2 := by decide +kernel
            have h40 : k < 40 := by
              have := (List.getElem?_eq_some_iff.mp hck).1
              have h41 : ∀ n, n < 10 → (fc n).length ≤ 40 := by decide +kernel
              have := h41 ci (by omega)
              omega
            have := this k h40 hj
            rcases hcj with ⟨rfl, rfl⟩ | ⟨rfl, rfl⟩
            · exact ⟨fun z => this.1 (by rw [hck, z]), fun z => this.2.1 (by rw [hck, z])⟩
            · exact ⟨fun z => this.2.2.1 (by rw [hck, z]), fun z => this.2.2.2 (by rw [hck, z])⟩
          match ck, hno with
          | 0, _ => rfl
          | 1, hno => exact absurd rfl hno.1
          | 2, hno => exact absurd rfl hno.2
          | n + 3, _ => rfl
    · intro k hk2 hne
      refine cellE_congr (fun _ => rfl) (fun _ => rfl) (fun hz => ?_) (fun hz => ?_)
      · rw [gw_sw]
        rcases hcj with ⟨rfl, rfl⟩ | ⟨rfl, rfl⟩
        · exact absurd (((kd_one k hk2).1 hz).trans ((kd_one x hx2).1 hx).symm) hne
        · rw [if_neg (by decide)]
      · rw [gw_sw]
        rcases hcj with ⟨rfl, rfl⟩ | ⟨rfl, rfl⟩
        · rw [if_neg (by decide)]
        · exact absurd (((kd_one k hk2).2 hz).trans ((kd_one x hx2).2 hx).symm) hne
  rw [hset] at hP1
  obtain ⟨r1, r2⟩ := hR.after hP1 hS1
  exact K H1 locs1 lsr r1 r2 hV
/-- frozen rows -/
def fzN (a : Nat) : Nat := if a = 5001 then 6 else 4
def fzT (a j : Nat) : Int32 := if a = 5001 then luT j else suT j
theorem Rep.Fz {g : GE} {h : HP} {H : Heap} {locs : List Loc} {s : State} (hR : Rep g h H) (hL : LO g locs) (hz : FZ g s) : va_S (frA g) (gH g) H locs := ⟨by rw [hz.2.1.2.2.1]; exact hR.2.1, fun q _ hq => hR.2.2 q (Nat.not_le.mp hq), hL⟩
theorem wm_fald {g : GE} {d : MD} {pc : Nat} {ls : List (Option Value)} {st : List Value} {h : HP} {Q : Option Value → HP → Prop} {a : Nat} {i : Int32} (pc' : Nat) (hd : decode (dB d) pc = .ok (.iaload, 1)) (hp : pc + 1 = pc') (ha : a = 5001 ∨ a = 5002) (hi : vp_in i (fzN a)) (kk : Wm g d pc' ls (.int (fzT a (ix i)) :: st) h Q) : Wm g d pc ls (.int i :: .ref a :: st) h Q := by
  subst hp
  refine wm_of (fun p e R s m args below meth c cells slots Qf X H locs lsr hR hL hV K => ?_) kk
  have hz := X.2.2.2.2.2.1
  have hS := hR.Fz hL hz
  have hlt := vp_in_lt hi
  rcases ha with rfl | rfl
  · obtain ⟨cell, h1, h2, h3, h4, h5, h6, h7⟩ := hz.2.1.2.2.2.1
    have hc : H[gF g 1]? = some cell := by rw [hS.2.1 _ (Array.getElem?_eq_some_iff.mp h1).1 h7]; exact h1
    have hl6 : i.toNatClampNeg < 6 := hlt
    exact W.iald (v := .int (luT (ix i))) X.1 X.2.1 hc h2 h3 (fun q => q.elim (fun q => hi (Or.inl q)) (fun q => by omega)) (h6 _ hl6) rfl rfl hd (K H locs lsr hR hL hV)
  · obtain ⟨cell, h1, h2, h3, h4, h5, h6, h7⟩ := hz.2.1.2.2.2.2.1
    have hc : H[gF g 2]? = some cell := by rw [hS.2.1 _ (Array.getElem?_eq_some_iff.mp h1).1 h7]; exact h1
    have hl6 : i.toNatClampNeg < 4 := hlt
    exact W.iald (v := .int (suT (ix i))) X.1 X.2.1 hc h2 h3 (fun q => q.elim (fun q => hi (Or.inl q)) (fun q => by omega)) (h6 _ hl6) rfl rfl hd (K H locs lsr hR hL hV)
theorem wm_flen {g : GE} {d : MD} {pc : Nat} {ls : List (Option Value)} {st : List Value} {h : HP} {Q : Option Value → HP → Prop} {a : Nat} (pc' : Nat) (hd : decode (dB d) pc = .ok (.arraylength, 1)) (hp : pc + 1 = pc') (ha : a = 5001 ∨ a = 5002) (kk : Wm g d pc' ls (.int (Int32.ofNat (fzN a)) :: st) h Q) : Wm g d pc ls (.ref a :: st) h Q := by
  subst hp
  refine wm_of (fun p e R s m args below meth c cells slots Qf X H locs lsr hR hL hV K => ?_) kk
  have hz := X.2.2.2.2.2.1
  have hS := hR.Fz hL hz
  rcases ha with rfl | rfl
  · obtain ⟨cell, h1, h2, h3, h4, h5, h6, h7⟩ := hz.2.1.2.2.2.1
    have hc : H[gF g 1]? = some cell := by rw [hS.2.1 _ (Array.getElem?_eq_some_iff.mp h1).1 h7]; exact h1
    exact W.alen (n := Int32.ofNat 6) X.1 X.2.1 hc h2 h5 rfl rfl hd (K H locs lsr hR hL hV)
  · obtain ⟨cell, h1, h2, h3, h4, h5, h6, h7⟩ := hz.2.1.2.2.2.2.1
    have hc : H[gF g 2]? = some cell := by rw [hS.2.1 _ (Array.getElem?_eq_some_iff.mp h1).1 h7]; exact h1
    exact W.alen (n := Int32.ofNat 4) X.1 X.2.1 hc h2 h5 rfl rfl hd (K H locs lsr hR hL hV)
/-- a frozen row's reference -/
theorem wm_gets {g : GE} {d : MD} {pc : Nat} {ls : List (Option Value)} {st : List Value} {h : HP} {Q : Option Value → HP → Prop} {i : Nat} (a : Nat) (pc' : Nat) (hl : (a = 5001 ∧ Cond.fieldLink (dO d) i RX7 "LINE_UNDER" "[I" ∈ lwg) ∨ (a = 5002 ∧ Cond.fieldLink (dO d) i RX7 "STATION_UNDER" "[I" ∈ lwg)) (hd : decode (dB d) pc = .ok (.getstatic i, 3)) (hp : pc + 3 = pc') (kk : Wm g d pc' ls (.ref a :: st) h Q) : Wm g d pc ls st h Q := by
  subst hp
  refine wm_of (fun p e R s m args below meth c cells slots Qf X H locs lsr hR hL hV K => ?_) kk
  have hz := X.2.2.2.2.2.1
  have hS := hR.Fz hL hz
  rcases hl with ⟨rfl, hl⟩ | ⟨rfl, hl⟩
  · obtain ⟨cf, kf, fi, f, a, cell, h1, h2, h3, h4, h5, h6, h7, h8⟩ := hz.2.1.2.2.2.2.2.1
    exact W.gets X.1 X.2.1 X.2.2.2.1 (X.2.2.2.2.1 _ hl) h1 h2 h3 h4 (by rw [hS.2.1 a (Array.getElem?_eq_some_iff.mp h5).1 h8]; exact h5) (fun e => by rw [e] at h6; cases h6) h7 rfl hd (K H locs lsr hR hL hV)
  · obtain ⟨cf, kf, fi, f, a, cell, h1, h2, h3, h4, h5, h6, h7, h8⟩ := hz.2.1.2.2.2.2.2.2.1
    exact W.gets X.1 X.2.1 X.2.2.2.1 (X.2.2.2.2.1 _ hl) h1 h2 h3 h4 (by rw [hS.2.1 a (Array.getElem?_eq_some_iff.mp h5).1 h8]; exact h5) (fun e => by rw [e] at h6; cases h6) h7 rfl hd (K H locs lsr hR hL hV)
/-- the script -/
theorem wm_sald {g : GE} {d : MD} {pc : Nat} {ls : List (Option Value)} {st : List Value} {h : HP} {Q : Option Value → HP → Prop} {i : Int32} (pc' : Nat) (hd : decode (dB d) pc = .ok (.iaload, 1)) (hp : pc + 1 = pc') (hi : vp_in i (gX g).1) (kk : Wm g d pc' ls (.int ((gX g).2 (ix i)) :: st) h Q) : Wm g d pc ls (.int i :: .ref 5000 :: st) h Q := by
  subst hp
  refine wm_of (fun p e R s m args below meth c cells slots Qf X H locs lsr hR hL hV K => ?_) kk
  have hz := X.2.2.2.2.2.1
  exact va_sld (H0 := gH g) (A := frA g) X.1 X.2.1 hz.2.1.1 (by rw [hz.2.1.2.2.1]; exact hz.2.1.2.1) (Nat.not_le.mpr hz.2.1.2.1) (hR.Fz hL hz) hi hd (K H locs lsr hR hL hV)
theorem wm_slen {g : GE} {d : MD} {pc : Nat} {ls : List (Option Value)} {st : List Value} {h : HP} {Q : Option Value → HP → Prop} (pc' : Nat) (hd : decode (dB d) pc = .ok (.arraylength, 1)) (hp : pc + 1 = pc') (kk : Wm g d pc' ls (.int (Int32.ofNat (gX g).1) :: st) h Q) : Wm g d pc ls (.ref 5000 :: st) h Q := by
  subst hp
  refine wm_of (fun p e R s m args below meth c cells slots Qf X H locs lsr hR hL hV K => ?_) kk
  have hz := X.2.2.2.2.2.1
  exact va_slen (H0 := gH g) (A := frA g) X.1 X.2.1 hz.2.1.1 (by rw [hz.2.1.2.2.1]; exact hz.2.1.2.1) (Nat.not_le.mpr hz.2.1.2.1) (hR.Fz hL hz) hd (K H locs lsr hR hL hV)
/-- a text's reference -/
theorem wm_ldcs {g : GE} {d : MD} {pc : Nat} {ls : List (Option Value)} {st : List Value} {h : HP} {Q : Option Value → HP → Prop} {i : Nat} (j : Nat) (pc' : Nat) (ho : dO d = RX5) (hj : j < 16) (hi : (nmS.getD j (0, "")).1 = i) (hd : decode (dB d) pc = .ok (.ldc i, 2)) (hp : pc + 2 = pc') (kk : Wm g d pc' ls (.ref (6000 + j) :: st) h Q) : Wm g d pc ls st h Q := by
  subst hp
  refine wm_of (fun p e R s m args below meth c cells slots Qf X H locs lsr hR hL hV K => ?_) kk
  have hz := X.2.2.2.2.2.1.2.2.1 j hj
  rw [hi] at hz
  have K1 := K H locs lsr hR hL hV
  have e1 : (Value.ref (6000 + j) :: st).map (cv g) = .ref (gF g (1000 + j)) :: st.map (cv g) := by
    show Value.ref (adr g (6000 + j)) :: _ = _
    unfold adr
    rw [if_neg (by omega), show 6000 + j - 5000 = 1000 + j by omega]
  rw [e1] at K1
  exact va_ldcS X.1 X.2.1 (by rw [← ho]; exact X.2.2.2.1) hz hd K1
end
section
/-! calls -/
/-- the words of a method: its code first -/
abbrev wsM (d : MD) : List Cond := Cond.code (dY d) (dB d) (dN d) (dR d) :: lwg
abbrev rmM (d : MD) : Room := { frames := dF d, cells := 0, slots := 0, locals := dW d }
def PcM (g : GE) (h : HP) (vs : List Value) : Array Value → State → Prop := fun a U => a = (vs.map (cv g)).toArray ∧ Rep g h U.heap ∧ FZ g U
def QcM (g : GE) (d : MD) (Q : Option Value → HP → Prop) : Array Value → State → Outcome → State → Prop := fun _ _ oc t => ∃ (r : Option Value) (h' : HP), oc = .returned (r.map (cv g)) ∧ Q r h' ∧ RV d r ∧ Rep g h' t.heap ∧ FZ g t
/-- what a method's name and tables must say -/
def MO (d : MD) : Prop := plainName (dY d).cls = true ∧ dO d = (dY d).cls ∧ Cond.code (dY d) (dB d) (dN d) (dR d) ∈ lwg ∧ Cond.initialized (dY d).cls ∈ lwg ∧ ((dY d).cls ≠ "java/lang/invoke/MethodHandle" ∧ (dY d).cls ≠ "java/lang/invoke/VarHandle")
/-- the locals with which a method begins -/
def ent : List Value → List (Option Value)
  | [] => []
  | v :: vs => if v.category = 2 then some v :: none :: ent vs else some v :: ent vs
theorem ent_args (g : GE) (vs : List Value) : ∀ (b i : Nat) (v : Value), (ent vs)[i]? = some (some v) → (b + i, cv g v) ∈ lv_args b (vs.map (cv g)) := by
  induction vs with
  | nil => intro b i v h; simp [ent] at h
  | cons w vs ih =>
    intro b i v h
    show _ ∈ (b, cv g w) :: lv_args (if (cv g w).category = 2 then b + 2 else b + 1) (vs.map (cv g))
    rw [cv_cat]
    by_cases hc : w.category = 2
    · rw [if_pos hc]
      simp only [ent, hc, if_true] at h
      match i, h with
      | 0, h =>
        simp at h
        subst h
        exact List.mem_cons_self
      | 1, h => simp at h
      | i + 2, h =>
        simp only [List.getElem?_cons_succ] at h
        have := ih (b + 2) i v h
        rw [show b + (i + 2) = b + 2 + i by omega]
        exact List.mem_cons_of_mem _ this
    · rw [if_neg hc]
      simp only [ent, hc, if_false] at h
      match i, h with
      | 0, h =>
        simp at h
        subst h
        exact List.mem_cons_self
      | i + 1, h =>
        simp only [List.getElem?_cons_succ] at h
        have := ih (b + 1) i v h
        rw [show b + (i + 1) = b + 1 + i by omega]
        exact List.mem_cons_of_mem _ this
theorem sl_len (g : GE) (vs : List Value) : (lg_sl (vs.map (cv g))).length = (lg_sl vs).length := by
  induction vs with
  | nil => rfl
  | cons v vs ih =>
    simp only [lg_sl, List.map_cons, List.flatMap_cons, List.length_append] at ih ⊢
    rw [ih, cv_cat]
    split <;> rfl
/-- a method's contract, out of its walk on the small machine -/
theorem met_of {g : GE} {d : MD} {h : HP} {vs : List Value} {Q : Option Value → HP → Prop} {ls : List (Option Value)} (hm : MO d) (hl : (lg_sl vs).length ≤ dN d) (he : ∀ (i : Nat) (v : Value), ls[i]? = some (some v) → (ent vs)[i]? = some (some v)) (k : Wm g d 0 ls [] h Q) : Met (gL g) (dY d) (wsM d) (rmM d) (PcM g h vs) (QcM g d Q) 0 0 (frA g) := by
  refine Met.ofW (cc := dB d) (maxL := dN d) (ret := dR d) hm.1 rfl ?_
  intro p e s m args below meth c s₁ B hml hv
  obtain ⟨rfl, hR, hz⟩ := hv
  have hts : ∀ w ∈ lwg, w.before ((vs.map (cv g)).toArray) s = true := fun w hw => atoms_spec (ws := wsM d) B.pre w (List.mem_cons_of_mem _ hw)
  have hown : s.vm.findClass (dO d) = some m.cls := by rw [hm.2.1]; exact findClass_of_methodNamed B.named
  have hlocks := B.notSynchronized
  have hlv := lv_entry (vs.map (cv g)) (n := dN d) (by rw [sl_len]; exact hl)
  rw [lg_entry_eq]
  refine k p e (rmM d) s m _ below meth c 0 0 _ ⟨B.exec, B.bytes, hml, hown, hts, hz, Nat.le_refl _, Nat.le_refl _, Nat.le_refl _, Nat.le_refl _⟩ ?_ s.heap [] _ hR (fun q hq => by cases hq) ⟨hlv.1, hlv.2.1, fun i v hi => hlv.2.2 (i, cv g v) (by have := ent_args g vs 0 i v (he i v hi); rw [Nat.zero_add] at this; exact this)⟩
  intro pc' lsr' H' locs' r h' hq hR' hL' hrv hrd
  have hr : meth.sig.returnType = dR d := B.returns
  match r, hrv, hrd with
  | none, hrv, hrd =>
    exact W.vret B.exec B.bytes (hr.trans hrv) (fun t ht hW => ⟨none, h', rfl, hq, hrv, by rw [ht]; exact hR', hz.warm hW⟩) hL' hrd
  | some (.int v), hrv, hrd =>
    obtain ⟨ty, ht1, ht2⟩ := hrv
    exact W.zret B.exec B.bytes (hr.trans ht1) ht2 (fun t ht hW => ⟨some (.int v), h', rfl, hq, ⟨ty, ht1, ht2⟩, by rw [ht]; exact hR', hz.warm hW⟩) hL' hrd
  | some (.long v), hrv, hrd =>
    exact W.lret B.exec B.bytes (hr.trans hrv) (fun t ht hW => ⟨some (.long v), h', rfl, hq, hrv, by rw [ht]; exact hR', hz.warm hW⟩) hL' hrd
  | some (.ref _), hrv, _ => exact absurd hrv (fun z => z)
  | some .null, hrv, _ => exact absurd hrv (fun z => z)
  | some (.float _), hrv, _ => exact absurd hrv (fun z => z)
  | some (.double _), hrv, _ => exact absurd hrv (fun z => z)
theorem pcM_blind {g : GE} {h : HP} {vs : List Value} : FrameBlind (PcM g h vs) := fun _ _ _ _ q => ⟨q.1, q.2.1, q.2.2.same rfl⟩
/-- going on behind a call -/
theorem run_go {g : GE} {d2 : MD} {p : Program} {e : Env} {R : Room} {s : State} {m : MethodId} {args : Array Value} {below : List Frame} {meth : Method} {c : Code} {H : Heap} {locs : List Loc} {cells slots : Nat} {Qf : State → Prop} {pc : Nat} {lsr : Array Slot} {st0 : List Value} {rest : List Value} {a : Array Value} {Q1 : Option Value → HP → Prop}
    (hr : va_Run p (gL g) e R s m args below meth c H locs cells slots 0 0 (F0 m pc lsr st0) (rest.map (cv g)) (QcM g d2 Q1 a) (frA g)) (hL : LO g locs)
    (kk : ∀ (r : Option Value) (h' : HP) (H1 : Heap) (locs1 : List Loc), Q1 r h' → RV d2 r → Rep g h' H1 → LO g locs1 → W p (gL g) e R s m args below meth c H1 locs1 cells slots Qf (F0 m (pc + 3) lsr ((r.toList ++ rest).map (cv g)))) : W p (gL g) e R s m args below meth c H locs cells slots Qf (F0 m pc lsr st0) := by
  intro T hT X
  obtain ⟨v, st₀, t, T', L, h0, X', hL2, e1, e2, ⟨r, h', hv, hq, hrv, hR', hz'⟩, st⟩ := hr T hT X
  cases hv
  have hl2 : LO g (locs ++ L) := fun q hq => by
    rcases List.mem_append.mp hq with h9 | h9
    · exact hL q h9
    · exact hL2 q h9
  obtain ⟨t2, a1, b1⟩ := kk r h' t.heap (locs ++ L) hq hrv hR' hl2 T' e1 X'
  refine ⟨t2, st t2 ?_, b1⟩
  have e3 : (r.map (cv g)).toList ++ rest.map (cv g) = (r.toList ++ rest).map (cv g) := by
    cases r <;> simp
  rw [e3]
  exact a1
def npar (d : MD) (n : Nat) : Prop := (parseMethodDescriptor (dY d).desc).map (fun q => q.parameters.length) = some n
/-- an instance method is called -/
theorem wm_callV {g : GE} {d : MD} {pc : Nat} {ls : List (Option Value)} {h : HP} {Q : Option Value → HP → Prop} (d2 : MD) {i b : Nat} (n ci : Nat) (As rest st : List Value) (Q1 : Option Value → HP → Prop) (pc' : Nat) (hm : MO d2) (hp2 : npar d2 n) (hl : Cond.methodLink (dO d) i (dY d2) ∈ lwg) (hi : Cond.instanceMethod (dY d2) ∈ lwg) (hs : Cond.selects (dO d2) (dY d2) (dY d2) ∈ lwg) (hroom : dF d2 + 1 ≤ dF d ∧ 8 + (dN d2 + 11) + dW d2 ≤ dW d)
    (hd : decode (dB d) pc = .ok (.invokevirtual i, 3)) (hp : pc + 3 = pc') (hst : As.reverse ++ .ref b :: rest = st) (hn : As.length = n) (hrest : (rest.map fun v => v.category).sum ≤ 8) (hb : kd b = ci) (hci : (vwCl.map (fun q => q.1))[ci]? = some (dO d2))
    (he : (lg_sl (.ref b :: As)).length ≤ dN d2) (ls2 : List (Option Value)) (he2 : ∀ (i : Nat) (v : Value), ls2[i]? = some (some v) → (ent (.ref b :: As))[i]? = some (some v)) (k1 : Wm g d2 0 ls2 [] h Q1)
    (k2 : ∀ (r : Option Value) (h' : HP), Q1 r h' → RV d2 r → Wm g d pc' ls (r.toList ++ rest) h' Q) : Wm g d pc ls st h Q := by
  subst hp
  subst hst
  intro p e R s m args below meth c cells slots Qf X RET H locs lsr hR hL hV
  have hM := met_of hm he he2 k1
  obtain ⟨hx, hb2, hml, hown, hts, hz, hF, hW2, hcl, hsl⟩ := id X
  have hb3 : b < 146 := by
    have hc9 : ci < 9 := by
      have := (List.getElem?_eq_some_iff.mp hci).1
      simpa using this
    exact kd_lt hb (by omega)
  rw [List.map_append, List.map_reverse, ref_map rest (by omega)]
  have hG : ∀ w ∈ wsM d2, w ∈ lwg := fun w hw => by
    rcases List.mem_cons.mp hw with rfl | hw
    · exact hm.2.2.1
    · exact hw
  have cw := cwV (own := dO d) (index := i) (C := dO d2) (y := dY d2) (R := R) (ws := wsM d2) (bytes := dB d2) (maxL := dN d2) (ret := dR d2) (rm := rmM d2) (mc := 0) (ms := 0) n hts (lwg_good (fun w hw => by
    simp only [wsV, List.mem_append, List.mem_cons, List.not_mem_nil, or_false] at hw
    rcases hw with (rfl | rfl | rfl | rfl) | hw
    · exact hl
    · exact hi
    · exact hs
    · rw [hm.2.1]; exact hm.2.2.2.1
    · exact hG w (List.mem_cons.mpr hw))) rfl rfl rfl ⟨hm.2.1.symm, hm.2.2.2.2.1, hm.2.2.2.2.2, hp2⟩ ⟨Nat.le_trans hroom.1 hF, Nat.le_trans hroom.2 hW2⟩
  obtain ⟨q, hq⟩ : ∃ q : vw_C, vwCl[ci]? = some q ∧ q.1 = dO d2 := by
    rw [List.getElem?_map] at hci
    cases hv : vwCl[ci]? with
    | none => rw [hv] at hci; cases hci
    | some q => rw [hv] at hci; exact ⟨q, rfl, Option.some.inj hci⟩
  have hc9 : ci < 9 := vwCl_lt hq.1
  have hrc : ∃ cell : Cell, H[gB g + b]? = some cell ∧ cell.vm.isStatics = false ∧ s.vm.findClass (dO d2) = some cell.cls := by
    rw [← hq.2]
    exact va_recv hz.1 hR.1 hq.1 ((wd_get hb3).trans (by rw [cellE_obj hb (by omega)]))
  have run := va_runV (l := gL g) (e := e) (below := below) (meth := meth) (locs := locs) (cells := cells) (slots := slots) (b := gB g + b) (As := As.map (cv g)) (rest := rest.map (cv g)) (g := F0 m pc lsr ((As.map (cv g)).reverse ++ .ref (gB g + b) :: rest.map (cv g))) (cc := dB d) (nL := dN d) (H := H) ⟨hx, hb2, hml, hown, hts⟩ hM cw ⟨pcM_blind, hrc, fun U hU hW => ⟨by rw [List.map_cons]; show _ = (Value.ref (adr g b) :: _).toArray; rw [adr_lt (by omega)], by rw [hU]; exact hR, hz.warm hW⟩⟩ rfl (by rw [List.length_map]; exact hn) hV.1 rfl (by
    have : ((rest.map (cv g)).map fun v => v.category) = rest.map fun v => v.category := by
      rw [List.map_map]
      exact List.map_congr_left (fun v _ => cv_cat g v)
    rw [this]
    show 2 * 0 + _ ≤ 8
    omega) hd ⟨by omega, by omega⟩
  exact run_go run hL (fun r h' H1 locs1 q1 q2 q3 q4 => k2 r h' q1 q2 p e R s m args below meth c cells slots Qf X RET H1 locs1 lsr q3 q4 hV)
/-- the words below a call's arguments -/
theorem rest_ok {g : GE} {rest : List Value} (hrest : (rest.map fun v => v.category).sum ≤ 8) : 2 * 0 + ((rest.map (cv g)).map fun v => v.category).sum ≤ 8 := by
  have : ((rest.map (cv g)).map fun v => v.category) = rest.map fun v => v.category := by
    rw [List.map_map]
    exact List.map_congr_left (fun v _ => cv_cat g v)
  rw [this]
  omega
/-- a static method is called -/
theorem wm_callS {g : GE} {d : MD} {pc : Nat} {ls : List (Option Value)} {h : HP} {Q : Option Value → HP → Prop} (d2 : MD) {i : Nat} (n : Nat) (As rest st : List Value) (Q1 : Option Value → HP → Prop) (pc' : Nat) (hm : MO d2) (hp2 : npar d2 n) (hl : Cond.methodLink (dO d) i (dY d2) ∈ lwg) (hi : Cond.static (dY d2) ∈ lwg) (hroom : dF d2 + 1 ≤ dF d ∧ 8 + (dN d2 + 11) + dW d2 ≤ dW d)
    (hd : decode (dB d) pc = .ok (.invokestatic i, 3)) (hp : pc + 3 = pc') (hst : As.reverse ++ rest = st) (hn : As.length = n) (hrest : (rest.map fun v => v.category).sum ≤ 8)
    (he : (lg_sl As).length ≤ dN d2) (ls2 : List (Option Value)) (he2 : ∀ (i : Nat) (v : Value), ls2[i]? = some (some v) → (ent As)[i]? = some (some v)) (k1 : Wm g d2 0 ls2 [] h Q1)
    (k2 : ∀ (r : Option Value) (h' : HP), Q1 r h' → RV d2 r → Wm g d pc' ls (r.toList ++ rest) h' Q) : Wm g d pc ls st h Q := by
  subst hp
  subst hst
  intro p e R s m args below meth c cells slots Qf X RET H locs lsr hR hL hV
  have hM := met_of hm he he2 k1
  obtain ⟨hx, hb2, hml, hown, hts, hz, hF, hW2, hcl, hsl⟩ := id X
  rw [List.map_append, List.map_reverse]
  have hG : ∀ w ∈ wsM d2, w ∈ lwg := fun w hw => by
    rcases List.mem_cons.mp hw with rfl | hw
    · exact hm.2.2.1
    · exact hw
  have cw := va_cwS (own := dO d) (index := i) (y := dY d2) (R := R) (ws := wsM d2) (bytes := dB d2) (maxL := dN d2) (ret := dR d2) (rm := rmM d2) (mc := 0) (ms := 0) n hts (lwg_good (fun w hw => by
    simp only [va_wsS, List.mem_append, List.mem_cons, List.not_mem_nil, or_false] at hw
    rcases hw with (rfl | rfl | rfl) | hw
    · exact hl
    · exact hi
    · exact hm.2.2.2.1
    · exact hG w (List.mem_cons.mpr hw))) rfl rfl rfl ⟨hm.2.2.2.2.1, hm.2.2.2.2.2, hp2⟩ ⟨Nat.le_trans hroom.1 hF, Nat.le_trans hroom.2 hW2⟩
  have run := va_runS (l := gL g) (e := e) (below := below) (meth := meth) (locs := locs) (cells := cells) (slots := slots) (As := As.map (cv g)) (rest := rest.map (cv g)) (g := F0 m pc lsr ((As.map (cv g)).reverse ++ rest.map (cv g))) (cc := dB d) (nL := dN d) (H := H) ⟨hx, hb2, hml, hown, hts⟩ hM cw ⟨pcM_blind, fun U hU hW => ⟨rfl, by rw [hU]; exact hR, hz.warm hW⟩⟩ rfl (by rw [List.length_map]; exact hn) hV.1 rfl (rest_ok hrest) hd ⟨by omega, by omega⟩
  exact run_go run hL (fun r h' H1 locs1 q1 q2 q3 q4 => k2 r h' q1 q2 p e R s m args below meth c cells slots Qf X RET H1 locs1 lsr q3 q4 hV)
/-- isIn is called from a class inside -/
theorem wm_callN {g : GE} {d : MD} {pc : Nat} {ls : List (Option Value)} {h : HP} {Q : Option Value → HP → Prop} (d2 : MD) {i : Nat} (n : Nat) (As rest st : List Value) (Q1 : Option Value → HP → Prop) (pc' : Nat) (hm : MO d2) (hp2 : npar d2 n) (hy : dY d2 = yX7_isIn) (hl : (dO d, i) ∈ nmN) (hi : Cond.static (dY d2) ∈ lwg) (hroom : dF d2 + 1 ≤ dF d ∧ 8 + (dN d2 + 11) + dW d2 ≤ dW d)
    (hd : decode (dB d) pc = .ok (.invokestatic i, 3)) (hp : pc + 3 = pc') (hst : As.reverse ++ rest = st) (hn : As.length = n) (hrest : (rest.map fun v => v.category).sum ≤ 8)
    (he : (lg_sl As).length ≤ dN d2) (ls2 : List (Option Value)) (he2 : ∀ (i : Nat) (v : Value), ls2[i]? = some (some v) → (ent As)[i]? = some (some v)) (k1 : Wm g d2 0 ls2 [] h Q1)
    (k2 : ∀ (r : Option Value) (h' : HP), Q1 r h' → RV d2 r → Wm g d pc' ls (r.toList ++ rest) h' Q) : Wm g d pc ls st h Q := by
  subst hp
  subst hst
  intro p e R s m args below meth c cells slots Qf X RET H locs lsr hR hL hV
  have hM := met_of hm he he2 k1
  obtain ⟨hx, hb2, hml, hown, hts, hz, hF, hW2, hcl, hsl⟩ := id X
  rw [List.map_append, List.map_reverse]
  have hG : ∀ w ∈ wsM d2, w ∈ lwg := fun w hw => by
    rcases List.mem_cons.mp hw with rfl | hw
    · exact hm.2.2.1
    · exact hw
  have hnw : va_Nw (.methodLinkNest (dO d) i (dY d2) RX7) s := by rw [hy]; exact hz.2.2.2 _ hl
  have cw := va_cnB (own := dO d) (index := i) (y := dY d2) (R := R) (ws := wsM d2) (bytes := dB d2) (maxL := dN d2) (ret := dR d2) (rm := rmM d2) (mc := 0) (ms := 0) n hts (lwg_good hG) rfl rfl rfl hnw (hts _ hm.2.2.2.1) ⟨hm.2.2.2.2.1, hm.2.2.2.2.2, hp2⟩ ⟨Nat.le_trans hroom.1 hF, Nat.le_trans hroom.2 hW2⟩
  have run := va_runSN (l := gL g) (e := e) (below := below) (meth := meth) (locs := locs) (cells := cells) (slots := slots) (As := As.map (cv g)) (rest := rest.map (cv g)) (g := F0 m pc lsr ((As.map (cv g)).reverse ++ rest.map (cv g))) (cc := dB d) (nL := dN d) (H := H) ⟨hx, hb2, hml, hown, hts⟩ hM ⟨cw, hts _ hi, trivial⟩ ⟨pcM_blind, fun U hU hW => ⟨rfl, by rw [hU]; exact hR, hz.warm hW⟩⟩ rfl (by rw [List.length_map]; exact hn) hV.1 rfl (rest_ok hrest) hd ⟨by omega, by omega⟩
  exact run_go run hL (fun r h' H1 locs1 q1 q2 q3 q4 => k2 r h' q1 q2 p e R s m args below meth c cells slots Qf X RET H1 locs1 lsr q3 q4 hV)
/-- Math.max, Math.min -/
theorem wm_max {g : GE} {d : MD} {pc : Nat} {ls : List (Option Value)} {st : List Value} {h : HP} {Q : Option Value → HP → Prop} {i : Nat} {x y : Int32} (pc' : Nat) (hl : Cond.methodLink (dO d) i Lib.Math.max.name ∈ lwg) (hs : Cond.static Lib.Math.max.name ∈ lwg) (hi : Cond.initialized "java/lang/Math" ∈ lwg) (hc : Cond.code Lib.Math.max.name Lib.Math.max.code 2 (some .int) ∈ lwg) (hroom : 1 ≤ dF d ∧ 21 ≤ dW d) (hrest : (st.map fun v => v.category).sum ≤ 8) (hd : decode (dB d) pc = .ok (.invokestatic i, 3)) (hp : pc + 3 = pc') (kk : Wm g d pc' ls (.int (if x < y then y else x) :: st) h Q) : Wm g d pc ls (.int y :: .int x :: st) h Q := by
  subst hp
  refine wm_of (fun p e R s m args below meth c cells slots Qf X H locs lsr hR hL hV K => ?_) kk
  obtain ⟨hx, hb2, hml, hown, hts, hz, hF, hW2, hcl, hsl⟩ := id X
  have hr := rest_ok (g := g) hrest
  exact va_mmax hx hb2 (hml.trans hV.1.symm) hown (hts _ hl) (hts _ hs) (hts _ hi) (hts _ hc) (by omega) (by omega) hcl hsl hd (K H locs lsr hR hL hV)
theorem wm_min {g : GE} {d : MD} {pc : Nat} {ls : List (Option Value)} {st : List Value} {h : HP} {Q : Option Value → HP → Prop} {i : Nat} {x y : Int32} (pc' : Nat) (hl : Cond.methodLink (dO d) i Lib.Math.min.name ∈ lwg) (hs : Cond.static Lib.Math.min.name ∈ lwg) (hi : Cond.initialized "java/lang/Math" ∈ lwg) (hc : Cond.code Lib.Math.min.name Lib.Math.min.code 2 (some .int) ∈ lwg) (hroom : 1 ≤ dF d ∧ 21 ≤ dW d) (hrest : (st.map fun v => v.category).sum ≤ 8) (hd : decode (dB d) pc = .ok (.invokestatic i, 3)) (hp : pc + 3 = pc') (kk : Wm g d pc' ls (.int (if y < x then y else x) :: st) h Q) : Wm g d pc ls (.int y :: .int x :: st) h Q := by
  subst hp
  refine wm_of (fun p e R s m args below meth c cells slots Qf X H locs lsr hR hL hV K => ?_) kk
  obtain ⟨hx, hb2, hml, hown, hts, hz, hF, hW2, hcl, hsl⟩ := id X
  have hr := rest_ok (g := g) hrest
  exact va_mmin hx hb2 (hml.trans hV.1.symm) hown (hts _ hl) (hts _ hs) (hts _ hi) (hts _ hc) (by omega) (by omega) hcl hsl hd (K H locs lsr hR hL hV)
theorem fit_i (x : Int32) : fits .int (.int x) = true := rfl
theorem wd_cpi {g : GE} {h : HP} {a b sp dp n : Nat} {e : va_E} (he : cellE g (cpi h a b sp dp n) b = e) : (wd g h).set b (gB g + b, e) = wd g (cpi h a b sp dp n) := by
  refine wd_set he (fun j _ hj => cellE_congr (fun m => ?_) (fun _ => rfl) (fun _ => rfl) (fun _ => rfl))
  rw [gi_cpi, if_neg (fun q => hj q.1)]
theorem wd_cpl {g : GE} {h : HP} {a b sp dp n : Nat} {e : va_E} (he : cellE g (cpl h a b sp dp n) b = e) : (wd g h).set b (gB g + b, e) = wd g (cpl h a b sp dp n) := by
  refine wd_set he (fun j _ hj => cellE_congr (fun _ => rfl) (fun m => ?_) (fun _ => rfl) (fun _ => rfl))
  rw [gl_cpl, if_neg (fun q => hj q.1)]
theorem cpy_len : nativeFrameWords "java/lang/System" "arraycopy" 5 + 11 ≤ 18 := by decide +kernel
/-- System.arraycopy of ints -/
theorem wm_cpi {g : GE} {d : MD} {pc : Nat} {ls : List (Option Value)} {st : List Value} {h : HP} {Q : Option Value → HP → Prop} {i a b : Nat} {sp dp n : Int32} (na nb : Nat) (pc' : Nat) (hl : Cond.methodLink (dO d) i arraycopyName ∈ lwg) (hnv : Cond.native arraycopyName ∈ lwg) (hs : Cond.static arraycopyName ∈ lwg) (hi : Cond.initialized "java/lang/System" ∈ lwg) (hroom : 1 ≤ dF d ∧ 26 ≤ dW d) (hrest : (st.map fun v => v.category).sum ≤ 8) (hd : decode (dB d) pc = .ok (.invokestatic i, 3)) (hp : pc + 3 = pc') (ha : kd a = 10) (hb : kd b = 10) (hna : kn a = na) (hnb : kn b = nb) (hin : ¬ sp < 0 ∧ ¬ dp < 0 ∧ ¬ n < 0 ∧ ix sp + ix n ≤ na ∧ ix dp + ix n ≤ nb)
    (kk : Wm g d pc' ls st (cpi h a b (ix sp) (ix dp) (ix n)) Q) : Wm g d pc ls (.int n :: .int dp :: .ref b :: .int sp :: .ref a :: st) h Q := by
  subst hp
  refine wm_of (fun p e R s m args below meth c cells slots Qf X H locs lsr hR hL hV K => ?_) kk
  obtain ⟨hx, hb2, hml, hown, hts, hz, hF, hW2, hcl, hsl⟩ := id X
  have hr := rest_ok (g := g) hrest
  have ha2 := kd_lt ha (by omega)
  have hb3 := kd_lt hb (by omega)
  have hcl5 := cpy_len
  rw [List.map_cons, List.map_cons, ref_map _ (by omega), List.map_cons, ref_map _ (by omega)]
  refine va_copyi (ty := .int) hx hb2 (hml.trans hV.1.symm) hown (hts _ hl) (hts _ hnv) (hts _ hs) (hts _ hi) hz.1 hR.1 (wd_D g h) (Rep.S (h := h) hL) a b 0 0 ((wd_get ha2).trans (by rw [cellE_i ha, hna])) ((wd_get hb3).trans (by rw [cellE_i hb, hnb])) rfl rfl rfl hin.1 hin.2.1 hin.2.2.1 hin.2.2.2.1 hin.2.2.2.2 (fun _ _ => rfl) (by omega) (by omega) hd (fun H1 locs1 hP1 _ hS1 => ?_)
  rw [wd_cpi (a := a) (sp := ix sp) (dp := ix dp) (n := ix n)] at hP1
  · obtain ⟨r1, r2⟩ := hR.after hP1 hS1
    exact K H1 locs1 lsr r1 r2 hV
  · rw [cellE_i hb, hnb]
    congr 4
    funext j
    show gi (cpi h a b (ix sp) (ix dp) (ix n)) b j = va_cpy (gi h a) (gi h b) (ix sp) (ix dp) (ix n) j
    rw [gi_cpi]
    unfold va_cpy
    by_cases hj : ix dp ≤ j ∧ j < ix dp + ix n
    · rw [if_pos ⟨rfl, hj⟩, if_pos hj]
    · rw [if_neg (fun q => hj q.2), if_neg hj]
/-- System.arraycopy of longs -/
theorem wm_cpl {g : GE} {d : MD} {pc : Nat} {ls : List (Option Value)} {st : List Value} {h : HP} {Q : Option Value → HP → Prop} {i a b : Nat} {sp dp n : Int32} (na nb : Nat) (pc' : Nat) (hl : Cond.methodLink (dO d) i arraycopyName ∈ lwg) (hnv : Cond.native arraycopyName ∈ lwg) (hs : Cond.static arraycopyName ∈ lwg) (hi : Cond.initialized "java/lang/System" ∈ lwg) (hroom : 1 ≤ dF d ∧ 26 ≤ dW d) (hrest : (st.map fun v => v.category).sum ≤ 8) (hd : decode (dB d) pc = .ok (.invokestatic i, 3)) (hp : pc + 3 = pc') (ha : kd a = 12) (hb : kd b = 12) (hna : kn a = na) (hnb : kn b = nb) (hin : ¬ sp < 0 ∧ ¬ dp < 0 ∧ ¬ n < 0 ∧ ix sp + ix n ≤ na ∧ ix dp + ix n ≤ nb)
    (kk : Wm g d pc' ls st (cpl h a b (ix sp) (ix dp) (ix n)) Q) : Wm g d pc ls (.int n :: .int dp :: .ref b :: .int sp :: .ref a :: st) h Q := by
  subst hp
  refine wm_of (fun p e R s m args below meth c cells slots Qf X H locs lsr hR hL hV K => ?_) kk
  obtain ⟨hx, hb2, hml, hown, hts, hz, hF, hW2, hcl, hsl⟩ := id X
  have hr := rest_ok (g := g) hrest
  have ha2 := kd_lt ha (by omega)
  have hb3 := kd_lt hb (by omega)
  have hcl5 := cpy_len
  rw [List.map_cons, List.map_cons, ref_map _ (by omega), List.map_cons, ref_map _ (by omega)]
  refine va_copyl (ty := .long) hx hb2 (hml.trans hV.1.symm) hown (hts _ hl) (hts _ hnv) (hts _ hs) (hts _ hi) hz.1 hR.1 (wd_D g h) (Rep.S (h := h) hL) a b 2 2 ((wd_get ha2).trans (by rw [cellE_l ha, hna])) ((wd_get hb3).trans (by rw [cellE_l hb, hnb])) rfl rfl rfl hin.1 hin.2.1 hin.2.2.1 hin.2.2.2.1 hin.2.2.2.2 (fun _ _ => rfl) (by omega) (by omega) hd (fun H1 locs1 hP1 _ hS1 => ?_)
  rw [wd_cpl (a := a) (sp := ix sp) (dp := ix dp) (n := ix n)] at hP1
  · obtain ⟨r1, r2⟩ := hR.after hP1 hS1
    exact K H1 locs1 lsr r1 r2 hV
  · rw [cellE_l hb, hnb]
    congr 5
    funext j
    show gl (cpl h a b (ix sp) (ix dp) (ix n)) b j = va_cpy (gl h a) (gl h b) (ix sp) (ix dp) (ix n) j
    rw [gl_cpl]
    unfold va_cpy
    by_cases hj : ix dp ≤ j ∧ j < ix dp + ix n
    · rw [if_pos ⟨rfl, hj⟩, if_pos hj]
    · rw [if_neg (fun q => hj q.2), if_neg hj]
end
