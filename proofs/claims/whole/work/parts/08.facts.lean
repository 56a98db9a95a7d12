theorem lwg_0 {w : Cond} (i : Nat) (h : (k2_sels lw_privs)[i]? = some w) (hg : goodWord w = true) : w ∈ lwg := List.mem_filter.mpr ⟨List.mem_append_left _ (List.mem_of_getElem? h), hg⟩
theorem lwg_1 {w : Cond} (i : Nat) (h : tables_1_1[i]? = some w) (hg : goodWord w = true) : w ∈ lwg := List.mem_filter.mpr ⟨List.mem_append_right _ (List.mem_append_left _ (List.mem_of_getElem? h)), hg⟩
theorem lwg_2 {w : Cond} (i : Nat) (h : tables_1_2[i]? = some w) (hg : goodWord w = true) : w ∈ lwg := List.mem_filter.mpr ⟨List.mem_append_right _ (List.mem_append_right _ (List.mem_append_left _ (List.mem_of_getElem? h))), hg⟩
theorem lwg_3 {w : Cond} (i : Nat) (h : tables_1_3[i]? = some w) (hg : goodWord w = true) : w ∈ lwg := List.mem_filter.mpr ⟨List.mem_append_right _ (List.mem_append_right _ (List.mem_append_right _ (List.mem_append_left _ (List.mem_of_getElem? h)))), hg⟩
theorem lwg_4 {w : Cond} (i : Nat) (h : tables_1_4[i]? = some w) (hg : goodWord w = true) : w ∈ lwg := List.mem_filter.mpr ⟨List.mem_append_right _ (List.mem_append_right _ (List.mem_append_right _ (List.mem_append_right _ (List.mem_append_left _ (List.mem_of_getElem? h))))), hg⟩
theorem lwg_5 {w : Cond} (i : Nat) (h : tables_1_5[i]? = some w) (hg : goodWord w = true) : w ∈ lwg := List.mem_filter.mpr ⟨List.mem_append_right _ (List.mem_append_right _ (List.mem_append_right _ (List.mem_append_right _ (List.mem_append_right _ (List.mem_append_left _ (List.mem_of_getElem? h)))))), hg⟩
theorem lwg_6 {w : Cond} (i : Nat) (h : tables_1_6[i]? = some w) (hg : goodWord w = true) : w ∈ lwg := List.mem_filter.mpr ⟨List.mem_append_right _ (List.mem_append_right _ (List.mem_append_right _ (List.mem_append_right _ (List.mem_append_right _ (List.mem_append_right _ (List.mem_append_left _ (List.mem_of_getElem? h))))))), hg⟩
theorem lwg_7 {w : Cond} (i : Nat) (h : tables_1_7[i]? = some w) (hg : goodWord w = true) : w ∈ lwg := List.mem_filter.mpr ⟨List.mem_append_right _ (List.mem_append_right _ (List.mem_append_right _ (List.mem_append_right _ (List.mem_append_right _ (List.mem_append_right _ (List.mem_append_right _ (List.mem_of_getElem? h))))))), hg⟩
def mX0_become : MD := ((1, 26), RX0, cX0_become, 2, none, yX0_become)
def mX0_room : MD := ((0, 0), RX0, cX0_room, 5, some .int, yX0_room)
def mX0_takes : MD := ((1, 21), RX0, cX0_takes, 1, some .int, yX0_takes)
def mX0_underWay : MD := ((0, 0), RX0, cX0_underWay, 3, some .int, yX0_underWay)
def mX0_setting : MD := ((0, 0), RX0, cX0_setting, 2, some .int, yX0_setting)
def mX0_least : MD := ((0, 0), RX0, cX0_least, 1, some .int, yX0_least)
def mX0_greatest : MD := ((0, 0), RX0, cX0_greatest, 1, some .int, yX0_greatest)
def mX0_replace : MD := ((1, 21), RX0, cX0_replace, 4, some .int, yX0_replace)
def mJ7_fill_53178 : MD := ((0, 0), RJ7, cJ7_fill_53178, 4, none, yJ7_fill_53178)
def mX1_open : MD := ((1, 23), RX1, cX1_open, 3, none, yX1_open)
def mX1_hold : MD := ((0, 0), RX1, cX1_hold, 3, none, yX1_hold)
def mX6_supply : MD := ((0, 0), RX6, cX6_supply, 5, some .int, yX6_supply)
def mX1_node : MD := ((0, 0), RX1, cX1_node, 3, some .int, yX1_node)
def mX1_putArc : MD := ((0, 0), RX1, cX1_putArc, 4, none, yX1_putArc)
def mX1_addArc : MD := ((1, 23), RX1, cX1_addArc, 5, none, yX1_addArc)
def mX3_holds : MD := ((0, 0), RX3, cX3_holds, 2, some .int, yX3_holds)
def mX6_roomAhead : MD := ((1, 24), RX6, cX6_roomAhead, 5, some .int, yX6_roomAhead)
def mX1_addTick : MD := ((2, 48), RX1, cX1_addTick, 6, none, yX1_addTick)
def mX1_findLevels : MD := ((1, 23), RX1, cX1_findLevels, 7, some .boolean, yX1_findLevels)
def mX1_push : MD := ((1, 21), RX1, cX1_push, 5, some .int, yX1_push)
def mX1_leadsDown : MD := ((0, 0), RX1, cX1_leadsDown, 3, some .boolean, yX1_leadsDown)
def mX1_nextDown : MD := ((1, 22), RX1, cX1_nextDown, 4, some .int, yX1_nextDown)
def mX1_fill : MD := ((2, 45), RX1, cX1_fill, 5, none, yX1_fill)
def mX1_flowBehind : MD := ((3, 73), RX1, cX1_flowBehind, 3, some .int, yX1_flowBehind)
def mX1_searchNear : MD := ((1, 23), RX1, cX1_searchNear, 6, none, yX1_searchNear)
def mX1_ticksNear : MD := ((1, 22), RX1, cX1_ticksNear, 4, some .int, yX1_ticksNear)
def mX1_stationsNear : MD := ((2, 45), RX1, cX1_stationsNear, 3, some .int, yX1_stationsNear)
def mX1_canStillSendFrom : MD := ((1, 22), RX1, cX1_canStillSendFrom, 2, some .boolean, yX1_canStillSendFrom)
def mX1_peak : MD := ((1, 21), RX1, cX1_peak, 6, some .int, yX1_peak)
def mX1_busyLines : MD := ((2, 46), RX1, cX1_busyLines, 3, some .int, yX1_busyLines)
def mX2_hasBits : MD := ((0, 0), RX2, cX2_hasBits, 1, some .boolean, yX2_hasBits)
def mJ7_fill_d0a16 : MD := ((0, 0), RJ7, cJ7_fill_d0a16, 5, none, yJ7_fill_d0a16)
def mX2_renew : MD := ((1, 24), RX2, cX2_renew, 3, none, yX2_renew)
def mX2_put : MD := ((0, 0), RX2, cX2_put, 4, none, yX2_put)
def mX2_hasPart : MD := ((0, 0), RX2, cX2_hasPart, 3, some .boolean, yX2_hasPart)
def mX2_entry : MD := ((0, 0), RX2, cX2_entry, 3, some .int, yX2_entry)
def mX3_become : MD := ((0, 0), RX3, cX3_become, 2, none, yX3_become)
def mX3_greatest : MD := ((0, 0), RX3, cX3_greatest, 1, some .int, yX3_greatest)
def mX3_replace : MD := ((0, 0), RX3, cX3_replace, 4, some .int, yX3_replace)
def mX4_tail : MD := ((0, 0), RX4, cX4_tail, 2, some .int, yX4_tail)
def mX4_room : MD := ((0, 0), RX4, cX4_room, 2, some .int, yX4_room)
def mX4_head : MD := ((1, 21), RX4, cX4_head, 2, some .int, yX4_head)
def mX4_improve : MD := ((2, 42), RX4, cX4_improve, 5, some .boolean, yX4_improve)
def mX4_findQuickest : MD := ((3, 66), RX4, cX4_findQuickest, 6, some .boolean, yX4_findQuickest)
def mX4_narrowest : MD := ((1, 21), RX4, cX4_narrowest, 6, some .int, yX4_narrowest)
def mX4_push : MD := ((1, 21), RX4, cX4_push, 8, none, yX4_push)
def mX7_isIn : MD := ((0, 0), RX7, cX7_isIn, 3, some .boolean, yX7_isIn)
def mX4_solve : MD := ((4, 91), RX4, cX4_solve, 6, none, yX4_solve)
def mX4_behind : MD := ((0, 0), RX4, cX4_behind, 6, some .long, yX4_behind)
def mX4_ticksUntil : MD := ((1, 25), RX4, cX4_ticksUntil, 9, some .long, yX4_ticksUntil)
def mX5_add : MD := ((0, 0), RX5, cX5_add, 2, none, yX5_add)
def mX5_sortOf : MD := ((0, 0), RX5, cX5_sortOf, 1, some .int, yX5_sortOf)
def mX5_valueOfToken : MD := ((0, 0), RX5, cX5_valueOfToken, 3, some .int, yX5_valueOfToken)
def mX5_readToken : MD := ((1, 22), RX5, cX5_readToken, 1, none, yX5_readToken)
def mX5_start : MD := ((2, 42), RX5, cX5_start, 1, none, yX5_start)
def mX5_fail : MD := ((0, 0), RX5, cX5_fail, 1, none, yX5_fail)
def mX5_takeSign : MD := ((2, 42), RX5, cX5_takeSign, 1, some .boolean, yX5_takeSign)
def mX5_isWord : MD := ((5, 140), RX5, cX5_isWord, 3, some .boolean, yX5_isWord)
def mX5_takeWord : MD := ((6, 162), RX5, cX5_takeWord, 3, some .boolean, yX5_takeWord)
def mX5_takeNumber : MD := ((2, 42), RX5, cX5_takeNumber, 4, some .int, yX5_takeNumber)
def mX5_takeOption : MD := ((7, 184), RX5, cX5_takeOption, 5, some .int, yX5_takeOption)
def mX5_stationKind : MD := ((6, 162), RX5, cX5_stationKind, 1, some .int, yX5_stationKind)
def mX5_lineKind : MD := ((6, 162), RX5, cX5_lineKind, 1, some .int, yX5_lineKind)
def mX6_addStation : MD := ((0, 0), RX6, cX6_addStation, 4, some .int, yX6_addStation)
def mX5_readStation : MD := ((8, 208), RX5, cX5_readStation, 5, none, yX5_readStation)
def mX6_addLine : MD := ((1, 23), RX6, cX6_addLine, 5, some .int, yX6_addLine)
def mX5_readLine : MD := ((8, 208), RX5, cX5_readLine, 7, none, yX5_readLine)
def mX5_readItem : MD := ((9, 234), RX5, cX5_readItem, 4, none, yX5_readItem)
def mX6_become : MD := ((2, 47), RX6, cX6_become, 3, none, yX6_become)
def mX6_hasStation : MD := ((1, 22), RX6, cX6_hasStation, 2, some .boolean, yX6_hasStation)
def mX6_hasLine : MD := ((1, 22), RX6, cX6_hasLine, 2, some .boolean, yX6_hasLine)
def mX6_areTwo : MD := ((2, 43), RX6, cX6_areTwo, 3, some .boolean, yX6_areTwo)
def mX6_dispatch : MD := ((2, 41), RX6, cX6_dispatch, 7, some .boolean, yX6_dispatch)
def mX6_passTick : MD := ((1, 21), RX6, cX6_passTick, 4, none, yX6_passTick)
def mX6_follow : MD := ((3, 67), RX6, cX6_follow, 7, some .int, yX6_follow)
def mX6_allStock : MD := ((0, 0), RX6, cX6_allStock, 3, some .int, yX6_allStock)
def mX6_allUnderWay : MD := ((1, 22), RX6, cX6_allUnderWay, 3, some .int, yX6_allUnderWay)
def mX6_allGoods : MD := ((2, 44), RX6, cX6_allGoods, 1, some .int, yX6_allGoods)
def mX6_allSent : MD := ((0, 0), RX6, cX6_allSent, 3, some .int, yX6_allSent)
def mX6_allRoom : MD := ((1, 24), RX6, cX6_allRoom, 3, some .int, yX6_allRoom)
def mX6_losingStations : MD := ((1, 21), RX6, cX6_losingStations, 3, some .int, yX6_losingStations)
def mX6_openLines : MD := ((1, 24), RX6, cX6_openLines, 4, some .int, yX6_openLines)
def mX6_comingTo : MD := ((1, 22), RX6, cX6_comingTo, 4, some .int, yX6_comingTo)
def mX6_costOutside : MD := ((1, 24), RX6, cX6_costOutside, 7, some .int, yX6_costOutside)
def mX6_costOfLines : MD := ((2, 48), RX6, cX6_costOfLines, 8, some .int, yX6_costOfLines)
def mX7_found : MD := ((1, 22), RX7, cX7_found, 3, some .int, yX7_found)
def mX7_station : MD := ((2, 44), RX7, cX7_station, 3, some .int, yX7_station)
def mX7_line : MD := ((3, 65), RX7, cX7_line, 7, some .int, yX7_line)
def mX7_of : MD := ((2, 45), RX7, cX7_of, 4, some .int, yX7_of)
def mX7_its : MD := ((2, 44), RX7, cX7_its, 4, some .int, yX7_its)
def mX7_set : MD := ((2, 44), RX7, cX7_set, 4, some .int, yX7_set)
def mX7_change : MD := ((3, 65), RX7, cX7_change, 6, some .int, yX7_change)
def mX7_isUnder : MD := ((1, 22), RX7, cX7_isUnder, 5, some .boolean, yX7_isUnder)
def mX7_as : MD := ((2, 46), RX7, cX7_as, 4, some .int, yX7_as)
def mX7_stands : MD := ((2, 46), RX7, cX7_stands, 4, some .int, yX7_stands)
def mX7_send : MD := ((3, 67), RX7, cX7_send, 3, some .int, yX7_send)
def mX7_go : MD := ((2, 44), RX7, cX7_go, 3, some .int, yX7_go)
def mX7_now : MD := ((2, 47), RX7, cX7_now, 2, some .int, yX7_now)
def mX7_isAsked : MD := ((2, 43), RX7, cX7_isAsked, 3, some .boolean, yX7_isAsked)
def mX7_mostIn : MD := ((4, 95), RX7, cX7_mostIn, 4, some .int, yX7_mostIn)
def mX7_most : MD := ((5, 118), RX7, cX7_most, 3, some .int, yX7_most)
def mX7_ticksUntil : MD := ((4, 95), RX7, cX7_ticksUntil, 4, some .int, yX7_ticksUntil)
def mX7_quick : MD := ((5, 118), RX7, cX7_quick, 4, some .int, yX7_quick)
def mX7_all : MD := ((5, 118), RX7, cX7_all, 3, some .int, yX7_all)
def mX7_near : MD := ((5, 118), RX7, cX7_near, 4, some .int, yX7_near)
def mX7_sheetFault : MD := ((1, 22), RX7, cX7_sheetFault, 2, some .int, yX7_sheetFault)
def mX7_cost : MD := ((3, 75), RX7, cX7_cost, 6, some .int, yX7_cost)
def mX7_mostHeld : MD := ((4, 95), RX7, cX7_mostHeld, 5, some .int, yX7_mostHeld)
def mX7_lose : MD := ((5, 119), RX7, cX7_lose, 8, some .int, yX7_lose)
def mX7_mostWidened : MD := ((5, 118), RX7, cX7_mostWidened, 4, some .int, yX7_mostWidened)
def mX7_widen : MD := ((6, 141), RX7, cX7_widen, 8, some .int, yX7_widen)
def mX7_held : MD := ((5, 119), RX7, cX7_held, 9, some .int, yX7_held)
def mX7_begin : MD := ((5, 118), RX7, cX7_begin, 4, some .int, yX7_begin)
def mX7_kind : MD := ((5, 118), RX7, cX7_kind, 8, some .int, yX7_kind)
def mX7_goal : MD := ((5, 118), RX7, cX7_goal, 6, some .int, yX7_goal)
def mX7_steady : MD := ((5, 116), RX7, cX7_steady, 6, some .int, yX7_steady)
def mX7_rate : MD := ((5, 116), RX7, cX7_rate, 3, some .int, yX7_rate)
def mX7_gain : MD := ((5, 116), RX7, cX7_gain, 4, some .int, yX7_gain)
def mX7_reach : MD := ((5, 116), RX7, cX7_reach, 6, some .int, yX7_reach)
def mX7_feed : MD := ((2, 44), RX7, cX7_feed, 4, some .int, yX7_feed)
def mX7_wipe : MD := ((0, 0), RX7, cX7_wipe, 2, some .int, yX7_wipe)
def mX7_text : MD := ((10, 257), RX7, cX7_text, 4, some .int, yX7_text)
def mX7_sheet : MD := ((2, 46), RX7, cX7_sheet, 4, some .int, yX7_sheet)
def mX7_write : MD := ((2, 44), RX7, cX7_write, 9, some .long, yX7_write)
def mX7_copy : MD := ((2, 44), RX7, cX7_copy, 8, some .int, yX7_copy)
def mX7_lays : MD := ((2, 44), RX7, cX7_lays, 8, some .int, yX7_lays)
def mX7_book : MD := ((4, 95), RX7, cX7_book, 7, some .int, yX7_book)
def mX7_planFault : MD := ((3, 65), RX7, cX7_planFault, 5, some .int, yX7_planFault)
def mX7_follow : MD := ((4, 93), RX7, cX7_follow, 5, some .int, yX7_follow)
def mX7_replay : MD := ((5, 117), RX7, cX7_replay, 5, some .int, yX7_replay)
def mX7_run : MD := ((5, 117), RX7, cX7_run, 6, some .int, yX7_run)
def mX7_image : MD := ((3, 69), RX7, cX7_image, 1, some .int, yX7_image)
def mX7_undo : MD := ((3, 69), RX7, cX7_undo, 1, some .int, yX7_undo)
def mX7_tear : MD := ((0, 0), RX7, cX7_tear, 2, some .int, yX7_tear)
def mX7_count : MD := ((3, 64), RX7, cX7_count, 2, some .int, yX7_count)
def mX7_status : MD := ((2, 44), RX7, cX7_status, 4, some .int, yX7_status)
def mX8_in : MD := ((0, 0), RX8, cX8_in, 6, some .boolean, yX8_in)
def mX8_finds : MD := ((0, 0), RX8, cX8_finds, 2, some .int, yX8_finds)
def mX8_at : MD := ((0, 0), RX8, cX8_at, 3, some .int, yX8_at)
def mX8_isStation : MD := ((1, 25), RX8, cX8_isStation, 2, some .boolean, yX8_isStation)
def mX8_isLine : MD := ((1, 25), RX8, cX8_isLine, 2, some .boolean, yX8_isLine)
def mX8_holds : MD := ((0, 0), RX8, cX8_holds, 3, some .int, yX8_holds)
def mX8_roomBy : MD := ((1, 22), RX8, cX8_roomBy, 6, some .int, yX8_roomBy)
def mX8_room : MD := ((2, 47), RX8, cX8_room, 3, some .int, yX8_room)
def mX8_takes : MD := ((1, 22), RX8, cX8_takes, 3, some .int, yX8_takes)
def mX8_onWay : MD := ((0, 0), RX8, cX8_onWay, 4, some .int, yX8_onWay)
def mX8_sumOf : MD := ((0, 0), RX8, cX8_sumOf, 5, some .int, yX8_sumOf)
def mX8_allOnWay : MD := ((1, 24), RX8, cX8_allOnWay, 1, some .int, yX8_allOnWay)
def mX8_goods : MD := ((2, 44), RX8, cX8_goods, 1, some .int, yX8_goods)
def mX8_addStation : MD := ((0, 0), RX8, cX8_addStation, 4, none, yX8_addStation)
def mX8_addLine : MD := ((0, 0), RX8, cX8_addLine, 6, none, yX8_addLine)
def mX8_station : MD := ((1, 25), RX8, cX8_station, 3, some .int, yX8_station)
def mX8_line : MD := ((2, 46), RX8, cX8_line, 6, some .int, yX8_line)
def mX8_comesTo : MD := ((1, 23), RX8, cX8_comesTo, 4, some .int, yX8_comesTo)
def mX8_of : MD := ((2, 46), RX8, cX8_of, 3, some .int, yX8_of)
def mX8_its : MD := ((3, 69), RX8, cX8_its, 3, some .int, yX8_its)
def mX8_set : MD := ((2, 46), RX8, cX8_set, 5, some .int, yX8_set)
def mX8_mayBe : MD := ((2, 46), RX8, cX8_mayBe, 4, some .boolean, yX8_mayBe)
def mX8_change : MD := ((3, 69), RX8, cX8_change, 5, some .int, yX8_change)
def mX8_as : MD := ((2, 46), RX8, cX8_as, 5, some .int, yX8_as)
def mX8_stands : MD := ((2, 46), RX8, cX8_stands, 4, some .int, yX8_stands)
def mX8_canSend : MD := ((3, 69), RX8, cX8_canSend, 4, some .boolean, yX8_canSend)
def mX8_sends : MD := ((2, 44), RX8, cX8_sends, 3, none, yX8_sends)
def mX8_send : MD := ((4, 92), RX8, cX8_send, 3, some .int, yX8_send)
def mX8_oneTick : MD := ((1, 22), RX8, cX8_oneTick, 3, none, yX8_oneTick)
def mX8_go : MD := ((2, 44), RX8, cX8_go, 3, some .int, yX8_go)
def mX8_roomOfAll : MD := ((3, 69), RX8, cX8_roomOfAll, 3, some .int, yX8_roomOfAll)
def mX8_losing : MD := ((1, 22), RX8, cX8_losing, 3, some .int, yX8_losing)
def mX8_openLines : MD := ((4, 92), RX8, cX8_openLines, 3, some .int, yX8_openLines)
def mX8_now : MD := ((5, 114), RX8, cX8_now, 2, some .int, yX8_now)
def mX8_layOut : MD := ((2, 47), RX8, cX8_layOut, 8, none, yX8_layOut)
def mX8_meets : MD := ((0, 0), RX8, cX8_meets, 3, none, yX8_meets)
def mX8_spreads : MD := ((1, 22), RX8, cX8_spreads, 8, some .int, yX8_spreads)
def mX8_searches : MD := ((2, 49), RX8, cX8_searches, 5, some .int, yX8_searches)
def mX8_behind : MD := ((1, 22), RX8, cX8_behind, 5, some .int, yX8_behind)
def mX8_leftFor : MD := ((0, 0), RX8, cX8_leftFor, 5, some .int, yX8_leftFor)
def mX8_moves : MD := ((0, 0), RX8, cX8_moves, 5, none, yX8_moves)
def mX8_brings : MD := ((3, 73), RX8, cX8_brings, 11, some .int, yX8_brings)
def mX8_ownTill : MD := ((0, 0), RX8, cX8_ownTill, 5, some .int, yX8_ownTill)
def mX8_mostBy : MD := ((4, 103), RX8, cX8_mostBy, 8, some .int, yX8_mostBy)
def mX8_mostOf : MD := ((5, 130), RX8, cX8_mostOf, 3, some .int, yX8_mostOf)
def mX8_isAhead : MD := ((1, 25), RX8, cX8_isAhead, 1, some .boolean, yX8_isAhead)
def mX8_most : MD := ((6, 152), RX8, cX8_most, 3, some .int, yX8_most)
def mX8_quickOf : MD := ((4, 103), RX8, cX8_quickOf, 5, some .int, yX8_quickOf)
def mX8_quick : MD := ((5, 127), RX8, cX8_quick, 4, some .int, yX8_quick)
def mX8_all : MD := ((5, 127), RX8, cX8_all, 3, some .int, yX8_all)
def mX8_near : MD := ((6, 152), RX8, cX8_near, 6, some .int, yX8_near)
def mX8_isSheet : MD := ((1, 25), RX8, cX8_isSheet, 1, some .boolean, yX8_isSheet)
def mX8_cost : MD := ((3, 74), RX8, cX8_cost, 7, some .int, yX8_cost)
def mX8_lose : MD := ((5, 130), RX8, cX8_lose, 7, some .int, yX8_lose)
def mX8_widen : MD := ((6, 152), RX8, cX8_widen, 7, some .int, yX8_widen)
def mX8_held : MD := ((6, 152), RX8, cX8_held, 8, some .int, yX8_held)
def mX8_begin : MD := ((6, 152), RX8, cX8_begin, 6, some .int, yX8_begin)
def mX8_kind : MD := ((6, 152), RX8, cX8_kind, 9, some .int, yX8_kind)
def mX8_goal : MD := ((6, 152), RX8, cX8_goal, 6, some .int, yX8_goal)
def mX8_nearer : MD := ((0, 0), RX8, cX8_nearer, 5, some .boolean, yX8_nearer)
def mX8_measures : MD := ((3, 69), RX8, cX8_measures, 4, none, yX8_measures)
def mX8_stepBack : MD := ((1, 22), RX8, cX8_stepBack, 2, some .int, yX8_stepBack)
def mX8_findsGains : MD := ((4, 92), RX8, cX8_findsGains, 6, none, yX8_findsGains)
def mX8_steadyBehind : MD := ((0, 0), RX8, cX8_steadyBehind, 6, some .long, yX8_steadyBehind)
def mX8_areTwo : MD := ((2, 46), RX8, cX8_areTwo, 3, some .boolean, yX8_areTwo)
def mX8_steady : MD := ((5, 117), RX8, cX8_steady, 6, some .int, yX8_steady)
def mX8_rate : MD := ((5, 117), RX8, cX8_rate, 3, some .int, yX8_rate)
def mX8_gain : MD := ((5, 117), RX8, cX8_gain, 4, some .int, yX8_gain)
def mX8_reach : MD := ((5, 117), RX8, cX8_reach, 10, some .int, yX8_reach)
def mX8_feed : MD := ((1, 25), RX8, cX8_feed, 4, some .int, yX8_feed)
def mX8_wipe : MD := ((0, 0), RX8, cX8_wipe, 2, some .int, yX8_wipe)
def mX8_byteAt : MD := ((0, 0), RX8, cX8_byteAt, 2, some .int, yX8_byteAt)
def mX8_isWordFrom : MD := ((1, 21), RX8, cX8_isWordFrom, 4, some .boolean, yX8_isWordFrom)
def mX8_next : MD := ((2, 44), RX8, cX8_next, 3, none, yX8_next)
def mX8_isWord : MD := ((0, 0), RX8, cX8_isWord, 2, some .boolean, yX8_isWord)
def mX8_takesNumber : MD := ((3, 66), RX8, cX8_takesNumber, 3, some .boolean, yX8_takesNumber)
def mX8_perhaps : MD := ((4, 88), RX8, cX8_perhaps, 5, some .boolean, yX8_perhaps)
def mX8_readsStation : MD := ((5, 112), RX8, cX8_readsStation, 3, some .boolean, yX8_readsStation)
def mX8_readsLine : MD := ((5, 112), RX8, cX8_readsLine, 4, some .boolean, yX8_readsLine)
def mX8_readsItem : MD := ((6, 135), RX8, cX8_readsItem, 2, some .boolean, yX8_readsItem)
def mX8_text : MD := ((7, 156), RX8, cX8_text, 5, some .int, yX8_text)
def mX8_narrow : MD := ((0, 0), RX8, cX8_narrow, 3, some .long, yX8_narrow)
def mX8_sheet : MD := ((2, 45), RX8, cX8_sheet, 5, some .int, yX8_sheet)
def mX8_write : MD := ((2, 45), RX8, cX8_write, 7, some .long, yX8_write)
def mX8_copy : MD := ((2, 45), RX8, cX8_copy, 7, some .int, yX8_copy)
def mX8_lays : MD := ((2, 45), RX8, cX8_lays, 6, some .int, yX8_lays)
def mX8_book : MD := ((4, 103), RX8, cX8_book, 5, some .int, yX8_book)
def mX8_sendsAll : MD := ((4, 92), RX8, cX8_sendsAll, 7, some .int, yX8_sendsAll)
def mX8_goesBy : MD := ((5, 118), RX8, cX8_goesBy, 5, some .int, yX8_goesBy)
def mX8_puts : MD := ((0, 0), RX8, cX8_puts, 5, some .int, yX8_puts)
def mX8_keeps : MD := ((1, 24), RX8, cX8_keeps, 3, none, yX8_keeps)
def mX8_gets : MD := ((0, 0), RX8, cX8_gets, 5, some .int, yX8_gets)
def mX8_comesBack : MD := ((1, 24), RX8, cX8_comesBack, 3, none, yX8_comesBack)
def mX8_plans : MD := ((6, 142), RX8, cX8_plans, 7, some .int, yX8_plans)
def mX8_replay : MD := ((7, 168), RX8, cX8_replay, 4, some .int, yX8_replay)
def mX8_run : MD := ((7, 168), RX8, cX8_run, 4, some .int, yX8_run)
def mX8_image : MD := ((2, 46), RX8, cX8_image, 1, some .int, yX8_image)
def mX8_undo : MD := ((2, 46), RX8, cX8_undo, 1, some .int, yX8_undo)
def mX8_tear : MD := ((0, 0), RX8, cX8_tear, 2, some .int, yX8_tear)
def mX8_count : MD := ((3, 64), RX8, cX8_count, 2, some .int, yX8_count)
def mX8_status : MD := ((1, 25), RX8, cX8_status, 2, some .int, yX8_status)
def mJ0_coder_7d493 : MD := ((0, 0), RJ0, cJ0_coder_7d493, 1, some .byte, yJ0_coder_7d493)
def mJ0_isLatin1_aae02 : MD := ((0, 0), RJ0, cJ0_isLatin1_aae02, 1, some .boolean, yJ0_isLatin1_aae02)
def mJ0_length_8abf5 : MD := ((1, 20), RJ0, cJ0_length_8abf5, 1, some .int, yJ0_length_8abf5)
def mJ3_checkIndex_8e157 : MD := ((0, 0), RJ3, cJ3_checkIndex_8e157, 3, some .int, yJ3_checkIndex_8e157)
def mJ0_checkIndex_df160 : MD := ((1, 22), RJ0, cJ0_checkIndex_df160, 2, none, yJ0_checkIndex_df160)
def mJ1_charAt_3b067 : MD := ((2, 43), RJ1, cJ1_charAt_3b067, 2, some .char, yJ1_charAt_3b067)
def mJ0_charAt_5068e : MD := ((3, 64), RJ0, cJ0_charAt_5068e, 2, some .char, yJ0_charAt_5068e)
theorem cl_RL_138 : Cond.constantLong RL 138 4294967295 ∈ lwg := lwg_7 112 (by decide +kernel) rfl
theorem cl_RX4_103 : Cond.constantLong RX4 103 120 ∈ lwg := lwg_4 43 (by decide +kernel) rfl
theorem cl_RX4_105 : Cond.constantLong RX4 105 2 ∈ lwg := lwg_4 44 (by decide +kernel) rfl
theorem cl_RX7_265 : Cond.constantLong RX7 265 2147483647 ∈ lwg := lwg_4 25 (by decide +kernel) rfl
theorem cl_RX7_327 : Cond.constantLong RX7 327 999 ∈ lwg := lwg_4 225 (by decide +kernel) rfl
theorem cl_RX8_125 : Cond.constantLong RX8 125 3 ∈ lwg := lwg_5 165 (by decide +kernel) rfl
theorem cl_RX8_127 : Cond.constantLong RX8 127 999 ∈ lwg := lwg_5 169 (by decide +kernel) rfl
theorem cl_RX8_138 : Cond.constantLong RX8 138 5 ∈ lwg := lwg_5 184 (by decide +kernel) rfl
theorem cl_RX8_144 : Cond.constantLong RX8 144 99 ∈ lwg := lwg_5 189 (by decide +kernel) rfl
theorem cl_RX8_146 : Cond.constantLong RX8 146 9 ∈ lwg := lwg_5 190 (by decide +kernel) rfl
theorem cl_RX8_166 : Cond.constantLong RX8 166 11 ∈ lwg := lwg_5 224 (by decide +kernel) rfl
theorem cl_RX8_174 : Cond.constantLong RX8 174 2 ∈ lwg := lwg_6 1 (by decide +kernel) rfl
theorem cl_RX8_176 : Cond.constantLong RX8 176 99999 ∈ lwg := lwg_6 10 (by decide +kernel) rfl
theorem cl_RX8_183 : Cond.constantLong RX8 183 9999 ∈ lwg := lwg_6 24 (by decide +kernel) rfl
theorem cl_RX8_197 : Cond.constantLong RX8 197 60 ∈ lwg := lwg_6 38 (by decide +kernel) rfl
theorem cl_RX8_246 : Cond.constantLong RX8 246 24 ∈ lwg := lwg_6 74 (by decide +kernel) rfl
theorem cl_RX8_265 : Cond.constantLong RX8 265 (-1) ∈ lwg := lwg_6 148 (by decide +kernel) rfl
theorem cl_RX8_290 : Cond.constantLong RX8 290 2147483647 ∈ lwg := lwg_6 202 (by decide +kernel) rfl
theorem cl_RX8_293 : Cond.constantLong RX8 293 120 ∈ lwg := lwg_6 212 (by decide +kernel) rfl
theorem cl_RX8_295 : Cond.constantLong RX8 295 3000000000 ∈ lwg := lwg_6 217 (by decide +kernel) rfl
theorem cl_RX8_297 : Cond.constantLong RX8 297 4 ∈ lwg := lwg_6 222 (by decide +kernel) rfl
theorem cl_RX8_314 : Cond.constantLong RX8 314 97 ∈ lwg := lwg_6 239 (by decide +kernel) rfl
theorem cl_RX8_316 : Cond.constantLong RX8 316 122 ∈ lwg := lwg_7 0 (by decide +kernel) rfl
theorem cl_RX8_318 : Cond.constantLong RX8 318 48 ∈ lwg := lwg_7 1 (by decide +kernel) rfl
theorem cl_RX8_320 : Cond.constantLong RX8 320 57 ∈ lwg := lwg_7 2 (by decide +kernel) rfl
theorem cl_RX8_386 : Cond.constantLong RX8 386 7 ∈ lwg := lwg_7 111 (by decide +kernel) rfl
theorem co_RX0_55 : Cond.constant RX0 55 99999 ∈ lwg := lwg_2 186 (by decide +kernel) rfl
theorem co_RX1_131 : Cond.constant RX1 131 2147483647 ∈ lwg := lwg_3 60 (by decide +kernel) rfl
theorem co_RX1_149 : Cond.constant RX1 149 1000000 ∈ lwg := lwg_3 81 (by decide +kernel) rfl
theorem co_RX3_21 : Cond.constant RX3 21 99999 ∈ lwg := lwg_2 132 (by decide +kernel) rfl
theorem co_RX4_59 : Cond.constant RX4 59 1000000 ∈ lwg := lwg_3 228 (by decide +kernel) rfl
theorem co_RX4_97 : Cond.constant RX4 97 2147483647 ∈ lwg := lwg_4 14 (by decide +kernel) rfl
theorem co_RX6_75 : Cond.constant RX6 75 99999 ∈ lwg := lwg_2 119 (by decide +kernel) rfl
theorem co_RX6_143 : Cond.constant RX6 143 2147483647 ∈ lwg := lwg_3 149 (by decide +kernel) rfl
theorem co_RX7_58 : Cond.constant RX7 58 (-1000000001) ∈ lwg := lwg_2 92 (by decide +kernel) rfl
theorem co_RX7_67 : Cond.constant RX7 67 (-1000000002) ∈ lwg := lwg_2 97 (by decide +kernel) rfl
theorem co_RX7_167 : Cond.constant RX7 167 (-1000000003) ∈ lwg := lwg_2 201 (by decide +kernel) rfl
theorem co_RX7_175 : Cond.constant RX7 175 (-1000000005) ∈ lwg := lwg_2 218 (by decide +kernel) rfl
theorem co_RX7_176 : Cond.constant RX7 176 99999 ∈ lwg := lwg_2 223 (by decide +kernel) rfl
theorem co_RX7_211 : Cond.constant RX7 211 (-1000000004) ∈ lwg := lwg_3 103 (by decide +kernel) rfl
theorem co_RX7_267 : Cond.constant RX7 267 (-1000000008) ∈ lwg := lwg_4 26 (by decide +kernel) rfl
theorem co_RX7_304 : Cond.constant RX7 304 (-1000000007) ∈ lwg := lwg_4 203 (by decide +kernel) rfl
theorem co_RX7_317 : Cond.constant RX7 317 (-1000000006) ∈ lwg := lwg_3 134 (by decide +kernel) rfl
theorem co_RX8_96 : Cond.constant RX8 96 (-1000000001) ∈ lwg := lwg_5 170 (by decide +kernel) rfl
theorem co_RX8_108 : Cond.constant RX8 108 99999 ∈ lwg := lwg_5 195 (by decide +kernel) rfl
theorem co_RX8_133 : Cond.constant RX8 133 (-1000000002) ∈ lwg := lwg_5 175 (by decide +kernel) rfl
theorem co_RX8_182 : Cond.constant RX8 182 (-1000000003) ∈ lwg := lwg_6 15 (by decide +kernel) rfl
theorem co_RX8_189 : Cond.constant RX8 189 (-1000000005) ∈ lwg := lwg_6 29 (by decide +kernel) rfl
theorem co_RX8_257 : Cond.constant RX8 257 (-1000000004) ∈ lwg := lwg_6 127 (by decide +kernel) rfl
theorem co_RX8_264 : Cond.constant RX8 264 (-1000000006) ∈ lwg := lwg_6 147 (by decide +kernel) rfl
theorem co_RX8_267 : Cond.constant RX8 267 1000000 ∈ lwg := lwg_6 189 (by decide +kernel) rfl
theorem co_RX8_292 : Cond.constant RX8 292 (-1000000008) ∈ lwg := lwg_6 203 (by decide +kernel) rfl
theorem co_RX8_353 : Cond.constant RX8 353 (-1000000007) ∈ lwg := lwg_7 35 (by decide +kernel) rfl
theorem fl_RX0_9 : FL RX0 9 0 9 := ⟨_, rfl, by decide, lwg_1 95 (by decide +kernel) rfl⟩
theorem fl_RX0_15 : FL RX0 15 0 0 := ⟨_, rfl, by decide, lwg_1 62 (by decide +kernel) rfl⟩
theorem fl_RX0_19 : FL RX0 19 0 1 := ⟨_, rfl, by decide, lwg_1 65 (by decide +kernel) rfl⟩
theorem fl_RX0_22 : FL RX0 22 0 2 := ⟨_, rfl, by decide, lwg_1 70 (by decide +kernel) rfl⟩
theorem fl_RX0_25 : FL RX0 25 0 3 := ⟨_, rfl, by decide, lwg_1 75 (by decide +kernel) rfl⟩
theorem fl_RX0_28 : FL RX0 28 0 4 := ⟨_, rfl, by decide, lwg_1 78 (by decide +kernel) rfl⟩
theorem fl_RX0_31 : FL RX0 31 0 5 := ⟨_, rfl, by decide, lwg_1 81 (by decide +kernel) rfl⟩
theorem fl_RX0_34 : FL RX0 34 0 6 := ⟨_, rfl, by decide, lwg_1 84 (by decide +kernel) rfl⟩
theorem fl_RX0_37 : FL RX0 37 0 7 := ⟨_, rfl, by decide, lwg_1 88 (by decide +kernel) rfl⟩
theorem fl_RX0_40 : FL RX0 40 0 8 := ⟨_, rfl, by decide, lwg_1 91 (by decide +kernel) rfl⟩
theorem fl_RX1_11 : FL RX1 11 1 7 := ⟨_, rfl, by decide, lwg_1 169 (by decide +kernel) rfl⟩
theorem fl_RX1_15 : FL RX1 15 1 8 := ⟨_, rfl, by decide, lwg_1 170 (by decide +kernel) rfl⟩
theorem fl_RX1_18 : FL RX1 18 1 9 := ⟨_, rfl, by decide, lwg_1 171 (by decide +kernel) rfl⟩
theorem fl_RX1_21 : FL RX1 21 1 10 := ⟨_, rfl, by decide, lwg_1 172 (by decide +kernel) rfl⟩
theorem fl_RX1_24 : FL RX1 24 1 11 := ⟨_, rfl, by decide, lwg_1 173 (by decide +kernel) rfl⟩
theorem fl_RX1_27 : FL RX1 27 1 12 := ⟨_, rfl, by decide, lwg_1 174 (by decide +kernel) rfl⟩
theorem fl_RX1_30 : FL RX1 30 1 13 := ⟨_, rfl, by decide, lwg_1 175 (by decide +kernel) rfl⟩
theorem fl_RX1_33 : FL RX1 33 1 14 := ⟨_, rfl, by decide, lwg_1 176 (by decide +kernel) rfl⟩
theorem fl_RX1_36 : FL RX1 36 1 15 := ⟨_, rfl, by decide, lwg_1 177 (by decide +kernel) rfl⟩
theorem fl_RX1_39 : FL RX1 39 1 16 := ⟨_, rfl, by decide, lwg_1 178 (by decide +kernel) rfl⟩
theorem fl_RX1_42 : FL RX1 42 1 0 := ⟨_, rfl, by decide, lwg_1 162 (by decide +kernel) rfl⟩
theorem fl_RX1_46 : FL RX1 46 1 1 := ⟨_, rfl, by decide, lwg_1 163 (by decide +kernel) rfl⟩
theorem fl_RX1_50 : FL RX1 50 1 2 := ⟨_, rfl, by decide, lwg_1 164 (by decide +kernel) rfl⟩
theorem fl_RX1_53 : FL RX1 53 1 3 := ⟨_, rfl, by decide, lwg_1 165 (by decide +kernel) rfl⟩
theorem fl_RX1_56 : FL RX1 56 1 4 := ⟨_, rfl, by decide, lwg_1 166 (by decide +kernel) rfl⟩
theorem fl_RX1_59 : FL RX1 59 1 5 := ⟨_, rfl, by decide, lwg_1 167 (by decide +kernel) rfl⟩
theorem fl_RX1_62 : FL RX1 62 1 6 := ⟨_, rfl, by decide, lwg_1 168 (by decide +kernel) rfl⟩
theorem fl_RX1_87 : FL RX1 87 6 2 := ⟨_, rfl, by decide, lwg_1 127 (by decide +kernel) rfl⟩
theorem fl_RX1_102 : FL RX1 102 6 4 := ⟨_, rfl, by decide, lwg_1 136 (by decide +kernel) rfl⟩
theorem fl_RX1_106 : FL RX1 106 6 0 := ⟨_, rfl, by decide, lwg_1 122 (by decide +kernel) rfl⟩
theorem fl_RX1_115 : FL RX1 115 6 3 := ⟨_, rfl, by decide, lwg_1 132 (by decide +kernel) rfl⟩
theorem fl_RX1_118 : FL RX1 118 6 5 := ⟨_, rfl, by decide, lwg_1 141 (by decide +kernel) rfl⟩
theorem fl_RX1_128 : FL RX1 128 0 1 := ⟨_, rfl, by decide, lwg_1 67 (by decide +kernel) rfl⟩
theorem fl_RX1_132 : FL RX1 132 0 2 := ⟨_, rfl, by decide, lwg_1 72 (by decide +kernel) rfl⟩
theorem fl_RX1_169 : FL RX1 169 0 8 := ⟨_, rfl, by decide, lwg_1 94 (by decide +kernel) rfl⟩
theorem fl_RX2_9 : FL RX2 9 2 0 := ⟨_, rfl, by decide, lwg_2 41 (by decide +kernel) rfl⟩
theorem fl_RX2_15 : FL RX2 15 2 1 := ⟨_, rfl, by decide, lwg_2 44 (by decide +kernel) rfl⟩
theorem fl_RX2_19 : FL RX2 19 2 2 := ⟨_, rfl, by decide, lwg_2 46 (by decide +kernel) rfl⟩
theorem fl_RX3_9 : FL RX3 9 3 0 := ⟨_, rfl, by decide, lwg_1 40 (by decide +kernel) rfl⟩
theorem fl_RX3_15 : FL RX3 15 3 1 := ⟨_, rfl, by decide, lwg_1 43 (by decide +kernel) rfl⟩
theorem fl_RX3_18 : FL RX3 18 3 2 := ⟨_, rfl, by decide, lwg_1 46 (by decide +kernel) rfl⟩
theorem fl_RX4_9 : FL RX4 9 4 1 := ⟨_, rfl, by decide, lwg_1 221 (by decide +kernel) rfl⟩
theorem fl_RX4_15 : FL RX4 15 4 3 := ⟨_, rfl, by decide, lwg_1 225 (by decide +kernel) rfl⟩
theorem fl_RX4_18 : FL RX4 18 4 4 := ⟨_, rfl, by decide, lwg_1 226 (by decide +kernel) rfl⟩
theorem fl_RX4_21 : FL RX4 21 4 5 := ⟨_, rfl, by decide, lwg_1 227 (by decide +kernel) rfl⟩
theorem fl_RX4_24 : FL RX4 24 4 6 := ⟨_, rfl, by decide, lwg_1 228 (by decide +kernel) rfl⟩
theorem fl_RX4_27 : FL RX4 27 4 0 := ⟨_, rfl, by decide, lwg_1 220 (by decide +kernel) rfl⟩
theorem fl_RX4_31 : FL RX4 31 4 2 := ⟨_, rfl, by decide, lwg_1 223 (by decide +kernel) rfl⟩
theorem fl_RX4_41 : FL RX4 41 6 3 := ⟨_, rfl, by decide, lwg_1 130 (by decide +kernel) rfl⟩
theorem fl_RX4_46 : FL RX4 46 6 5 := ⟨_, rfl, by decide, lwg_1 139 (by decide +kernel) rfl⟩
theorem fl_RX4_50 : FL RX4 50 6 0 := ⟨_, rfl, by decide, lwg_1 120 (by decide +kernel) rfl⟩
theorem fl_RX4_91 : FL RX4 91 0 1 := ⟨_, rfl, by decide, lwg_1 66 (by decide +kernel) rfl⟩
theorem fl_RX4_94 : FL RX4 94 0 2 := ⟨_, rfl, by decide, lwg_1 71 (by decide +kernel) rfl⟩
theorem fl_RX5_9 : FL RX5 9 5 0 := ⟨_, rfl, by decide, lwg_2 10 (by decide +kernel) rfl⟩
theorem fl_RX5_15 : FL RX5 15 5 1 := ⟨_, rfl, by decide, lwg_2 11 (by decide +kernel) rfl⟩
theorem fl_RX5_19 : FL RX5 19 5 2 := ⟨_, rfl, by decide, lwg_2 13 (by decide +kernel) rfl⟩
theorem fl_RX5_22 : FL RX5 22 5 5 := ⟨_, rfl, by decide, lwg_2 17 (by decide +kernel) rfl⟩
theorem fl_RX5_28 : FL RX5 28 5 3 := ⟨_, rfl, by decide, lwg_2 15 (by decide +kernel) rfl⟩
theorem fl_RX5_34 : FL RX5 34 5 4 := ⟨_, rfl, by decide, lwg_2 16 (by decide +kernel) rfl⟩
theorem fl_RX5_45 : FL RX5 45 5 6 := ⟨_, rfl, by decide, lwg_2 18 (by decide +kernel) rfl⟩
theorem fl_RX5_98 : FL RX5 98 6 2 := ⟨_, rfl, by decide, lwg_1 128 (by decide +kernel) rfl⟩
theorem fl_RX5_107 : FL RX5 107 6 3 := ⟨_, rfl, by decide, lwg_1 133 (by decide +kernel) rfl⟩
theorem fl_RX5_121 : FL RX5 121 6 4 := ⟨_, rfl, by decide, lwg_1 137 (by decide +kernel) rfl⟩
theorem fl_RX5_128 : FL RX5 128 3 2 := ⟨_, rfl, by decide, lwg_1 49 (by decide +kernel) rfl⟩
theorem fl_RX5_132 : FL RX5 132 6 5 := ⟨_, rfl, by decide, lwg_1 142 (by decide +kernel) rfl⟩
theorem fl_RX5_142 : FL RX5 142 0 3 := ⟨_, rfl, by decide, lwg_1 77 (by decide +kernel) rfl⟩
theorem fl_RX5_149 : FL RX5 149 0 4 := ⟨_, rfl, by decide, lwg_1 80 (by decide +kernel) rfl⟩
theorem fl_RX5_153 : FL RX5 153 0 5 := ⟨_, rfl, by decide, lwg_1 83 (by decide +kernel) rfl⟩
theorem fl_RX5_157 : FL RX5 157 0 6 := ⟨_, rfl, by decide, lwg_1 86 (by decide +kernel) rfl⟩
theorem fl_RX5_159 : FL RX5 159 0 7 := ⟨_, rfl, by decide, lwg_1 90 (by decide +kernel) rfl⟩
theorem fl_RX6_11 : FL RX6 11 6 4 := ⟨_, rfl, by decide, lwg_1 134 (by decide +kernel) rfl⟩
theorem fl_RX6_19 : FL RX6 19 6 5 := ⟨_, rfl, by decide, lwg_1 138 (by decide +kernel) rfl⟩
theorem fl_RX6_25 : FL RX6 25 6 0 := ⟨_, rfl, by decide, lwg_1 119 (by decide +kernel) rfl⟩
theorem fl_RX6_29 : FL RX6 29 6 1 := ⟨_, rfl, by decide, lwg_1 123 (by decide +kernel) rfl⟩
theorem fl_RX6_32 : FL RX6 32 6 2 := ⟨_, rfl, by decide, lwg_1 125 (by decide +kernel) rfl⟩
theorem fl_RX6_35 : FL RX6 35 6 3 := ⟨_, rfl, by decide, lwg_1 129 (by decide +kernel) rfl⟩
theorem fl_RX6_53 : FL RX6 53 3 0 := ⟨_, rfl, by decide, lwg_1 42 (by decide +kernel) rfl⟩
theorem fl_RX6_56 : FL RX6 56 3 1 := ⟨_, rfl, by decide, lwg_1 45 (by decide +kernel) rfl⟩
theorem fl_RX6_59 : FL RX6 59 3 2 := ⟨_, rfl, by decide, lwg_1 48 (by decide +kernel) rfl⟩
theorem fl_RX6_62 : FL RX6 62 0 0 := ⟨_, rfl, by decide, lwg_1 63 (by decide +kernel) rfl⟩
theorem fl_RX6_63 : FL RX6 63 0 1 := ⟨_, rfl, by decide, lwg_1 68 (by decide +kernel) rfl⟩
theorem fl_RX6_66 : FL RX6 66 0 2 := ⟨_, rfl, by decide, lwg_1 73 (by decide +kernel) rfl⟩
theorem fl_RX6_69 : FL RX6 69 0 5 := ⟨_, rfl, by decide, lwg_1 82 (by decide +kernel) rfl⟩
theorem fl_RX6_72 : FL RX6 72 0 6 := ⟨_, rfl, by decide, lwg_1 85 (by decide +kernel) rfl⟩
theorem fl_RX6_76 : FL RX6 76 0 7 := ⟨_, rfl, by decide, lwg_1 89 (by decide +kernel) rfl⟩
theorem fl_RX6_79 : FL RX6 79 0 8 := ⟨_, rfl, by decide, lwg_1 93 (by decide +kernel) rfl⟩
theorem fl_RX6_82 : FL RX6 82 0 9 := ⟨_, rfl, by decide, lwg_1 96 (by decide +kernel) rfl⟩
theorem fl_RX6_103 : FL RX6 103 2 2 := ⟨_, rfl, by decide, lwg_2 47 (by decide +kernel) rfl⟩
theorem fl_RX6_108 : FL RX6 108 2 0 := ⟨_, rfl, by decide, lwg_2 42 (by decide +kernel) rfl⟩
theorem fl_RX7_10 : FL RX7 10 7 0 := ⟨_, rfl, by decide, lwg_2 57 (by decide +kernel) rfl⟩
theorem fl_RX7_16 : FL RX7 16 7 1 := ⟨_, rfl, by decide, lwg_2 58 (by decide +kernel) rfl⟩
theorem fl_RX7_19 : FL RX7 19 7 2 := ⟨_, rfl, by decide, lwg_2 59 (by decide +kernel) rfl⟩
theorem fl_RX7_25 : FL RX7 25 7 3 := ⟨_, rfl, by decide, lwg_2 60 (by decide +kernel) rfl⟩
theorem fl_RX7_32 : FL RX7 32 7 4 := ⟨_, rfl, by decide, lwg_2 61 (by decide +kernel) rfl⟩
theorem fl_RX7_39 : FL RX7 39 7 5 := ⟨_, rfl, by decide, lwg_2 62 (by decide +kernel) rfl⟩
theorem fl_RX7_45 : FL RX7 45 7 6 := ⟨_, rfl, by decide, lwg_2 63 (by decide +kernel) rfl⟩
theorem fl_RX7_49 : FL RX7 49 7 7 := ⟨_, rfl, by decide, lwg_2 64 (by decide +kernel) rfl⟩
theorem fl_RX7_63 : FL RX7 63 6 2 := ⟨_, rfl, by decide, lwg_1 126 (by decide +kernel) rfl⟩
theorem fl_RX7_76 : FL RX7 76 6 3 := ⟨_, rfl, by decide, lwg_1 131 (by decide +kernel) rfl⟩
theorem fl_RX7_83 : FL RX7 83 6 5 := ⟨_, rfl, by decide, lwg_1 140 (by decide +kernel) rfl⟩
theorem fl_RX7_87 : FL RX7 87 0 3 := ⟨_, rfl, by decide, lwg_1 76 (by decide +kernel) rfl⟩
theorem fl_RX7_92 : FL RX7 92 0 4 := ⟨_, rfl, by decide, lwg_1 79 (by decide +kernel) rfl⟩
theorem fl_RX7_99 : FL RX7 99 6 4 := ⟨_, rfl, by decide, lwg_1 135 (by decide +kernel) rfl⟩
theorem fl_RX7_103 : FL RX7 103 3 0 := ⟨_, rfl, by decide, lwg_1 41 (by decide +kernel) rfl⟩
theorem fl_RX7_108 : FL RX7 108 3 1 := ⟨_, rfl, by decide, lwg_1 44 (by decide +kernel) rfl⟩
theorem fl_RX7_111 : FL RX7 111 3 2 := ⟨_, rfl, by decide, lwg_1 47 (by decide +kernel) rfl⟩
theorem fl_RX7_114 : FL RX7 114 6 0 := ⟨_, rfl, by decide, lwg_1 121 (by decide +kernel) rfl⟩
theorem fl_RX7_133 : FL RX7 133 0 8 := ⟨_, rfl, by decide, lwg_1 92 (by decide +kernel) rfl⟩
theorem fl_RX7_148 : FL RX7 148 0 2 := ⟨_, rfl, by decide, lwg_1 74 (by decide +kernel) rfl⟩
theorem fl_RX7_151 : FL RX7 151 0 1 := ⟨_, rfl, by decide, lwg_1 69 (by decide +kernel) rfl⟩
theorem fl_RX7_162 : FL RX7 162 0 0 := ⟨_, rfl, by decide, lwg_1 64 (by decide +kernel) rfl⟩
theorem fl_RX7_180 : FL RX7 180 6 1 := ⟨_, rfl, by decide, lwg_1 124 (by decide +kernel) rfl⟩
theorem fl_RX7_268 : FL RX7 268 4 2 := ⟨_, rfl, by decide, lwg_1 224 (by decide +kernel) rfl⟩
theorem fl_RX7_271 : FL RX7 271 4 1 := ⟨_, rfl, by decide, lwg_1 222 (by decide +kernel) rfl⟩
theorem fl_RX7_277 : FL RX7 277 5 1 := ⟨_, rfl, by decide, lwg_2 12 (by decide +kernel) rfl⟩
theorem fl_RX7_294 : FL RX7 294 5 2 := ⟨_, rfl, by decide, lwg_2 14 (by decide +kernel) rfl⟩
theorem fl_RX7_305 : FL RX7 305 2 2 := ⟨_, rfl, by decide, lwg_2 48 (by decide +kernel) rfl⟩
theorem fl_RX7_306 : FL RX7 306 2 0 := ⟨_, rfl, by decide, lwg_2 43 (by decide +kernel) rfl⟩
theorem fl_RX7_314 : FL RX7 314 2 1 := ⟨_, rfl, by decide, lwg_2 45 (by decide +kernel) rfl⟩
theorem fl_RX7_347 : FL RX7 347 7 8 := ⟨_, rfl, by decide, lwg_2 65 (by decide +kernel) rfl⟩
theorem fl_RX7_356 : FL RX7 356 0 6 := ⟨_, rfl, by decide, lwg_1 87 (by decide +kernel) rfl⟩
theorem fl_RX8_7 : FL RX8 7 8 0 := ⟨_, rfl, by decide, lwg_5 39 (by decide +kernel) rfl⟩
theorem fl_RX8_13 : FL RX8 13 8 4 := ⟨_, rfl, by decide, lwg_5 43 (by decide +kernel) rfl⟩
theorem fl_RX8_16 : FL RX8 16 8 5 := ⟨_, rfl, by decide, lwg_5 44 (by decide +kernel) rfl⟩
theorem fl_RX8_19 : FL RX8 19 8 6 := ⟨_, rfl, by decide, lwg_5 45 (by decide +kernel) rfl⟩
theorem fl_RX8_22 : FL RX8 22 8 8 := ⟨_, rfl, by decide, lwg_5 47 (by decide +kernel) rfl⟩
theorem fl_RX8_25 : FL RX8 25 8 9 := ⟨_, rfl, by decide, lwg_5 48 (by decide +kernel) rfl⟩
theorem fl_RX8_28 : FL RX8 28 8 10 := ⟨_, rfl, by decide, lwg_5 49 (by decide +kernel) rfl⟩
theorem fl_RX8_31 : FL RX8 31 8 11 := ⟨_, rfl, by decide, lwg_5 50 (by decide +kernel) rfl⟩
theorem fl_RX8_34 : FL RX8 34 8 12 := ⟨_, rfl, by decide, lwg_5 51 (by decide +kernel) rfl⟩
theorem fl_RX8_37 : FL RX8 37 8 13 := ⟨_, rfl, by decide, lwg_5 52 (by decide +kernel) rfl⟩
theorem fl_RX8_40 : FL RX8 40 8 14 := ⟨_, rfl, by decide, lwg_5 53 (by decide +kernel) rfl⟩
theorem fl_RX8_43 : FL RX8 43 8 15 := ⟨_, rfl, by decide, lwg_5 54 (by decide +kernel) rfl⟩
theorem fl_RX8_46 : FL RX8 46 8 16 := ⟨_, rfl, by decide, lwg_5 55 (by decide +kernel) rfl⟩
theorem fl_RX8_49 : FL RX8 49 8 17 := ⟨_, rfl, by decide, lwg_5 56 (by decide +kernel) rfl⟩
theorem fl_RX8_52 : FL RX8 52 8 18 := ⟨_, rfl, by decide, lwg_5 57 (by decide +kernel) rfl⟩
theorem fl_RX8_55 : FL RX8 55 8 19 := ⟨_, rfl, by decide, lwg_5 58 (by decide +kernel) rfl⟩
theorem fl_RX8_58 : FL RX8 58 8 21 := ⟨_, rfl, by decide, lwg_5 60 (by decide +kernel) rfl⟩
theorem fl_RX8_61 : FL RX8 61 8 22 := ⟨_, rfl, by decide, lwg_5 61 (by decide +kernel) rfl⟩
theorem fl_RX8_64 : FL RX8 64 8 23 := ⟨_, rfl, by decide, lwg_5 62 (by decide +kernel) rfl⟩
theorem fl_RX8_67 : FL RX8 67 8 24 := ⟨_, rfl, by decide, lwg_5 63 (by decide +kernel) rfl⟩
theorem fl_RX8_70 : FL RX8 70 8 25 := ⟨_, rfl, by decide, lwg_5 64 (by decide +kernel) rfl⟩
theorem fl_RX8_73 : FL RX8 73 8 31 := ⟨_, rfl, by decide, lwg_5 70 (by decide +kernel) rfl⟩
theorem fl_RX8_77 : FL RX8 77 8 33 := ⟨_, rfl, by decide, lwg_5 72 (by decide +kernel) rfl⟩
theorem fl_RX8_80 : FL RX8 80 8 34 := ⟨_, rfl, by decide, lwg_5 73 (by decide +kernel) rfl⟩
theorem fl_RX8_83 : FL RX8 83 8 35 := ⟨_, rfl, by decide, lwg_5 74 (by decide +kernel) rfl⟩
theorem fl_RX8_87 : FL RX8 87 8 36 := ⟨_, rfl, by decide, lwg_5 75 (by decide +kernel) rfl⟩
theorem fl_RX8_90 : FL RX8 90 8 37 := ⟨_, rfl, by decide, lwg_5 76 (by decide +kernel) rfl⟩
theorem fl_RX8_93 : FL RX8 93 8 38 := ⟨_, rfl, by decide, lwg_5 77 (by decide +kernel) rfl⟩
theorem fl_RX8_97 : FL RX8 97 8 3 := ⟨_, rfl, by decide, lwg_5 42 (by decide +kernel) rfl⟩
theorem fl_RX8_105 : FL RX8 105 8 7 := ⟨_, rfl, by decide, lwg_5 46 (by decide +kernel) rfl⟩
theorem fl_RX8_154 : FL RX8 154 8 1 := ⟨_, rfl, by decide, lwg_5 40 (by decide +kernel) rfl⟩
theorem fl_RX8_194 : FL RX8 194 8 2 := ⟨_, rfl, by decide, lwg_5 41 (by decide +kernel) rfl⟩
theorem fl_RX8_211 : FL RX8 211 8 20 := ⟨_, rfl, by decide, lwg_5 59 (by decide +kernel) rfl⟩
theorem fl_RX8_299 : FL RX8 299 8 26 := ⟨_, rfl, by decide, lwg_5 65 (by decide +kernel) rfl⟩
theorem fl_RX8_302 : FL RX8 302 8 27 := ⟨_, rfl, by decide, lwg_5 66 (by decide +kernel) rfl⟩
theorem fl_RX8_305 : FL RX8 305 8 28 := ⟨_, rfl, by decide, lwg_5 67 (by decide +kernel) rfl⟩
theorem fl_RX8_311 : FL RX8 311 8 29 := ⟨_, rfl, by decide, lwg_5 68 (by decide +kernel) rfl⟩
theorem fl_RX8_325 : FL RX8 325 8 30 := ⟨_, rfl, by decide, lwg_5 69 (by decide +kernel) rfl⟩
theorem fl_RX8_328 : FL RX8 328 8 32 := ⟨_, rfl, by decide, lwg_5 71 (by decide +kernel) rfl⟩
theorem fl_RX8_382 : FL RX8 382 8 39 := ⟨_, rfl, by decide, lwg_5 78 (by decide +kernel) rfl⟩
theorem ml_RJ0_335 : Cond.methodLink RJ0 335 yJ0_coder_7d493 ∈ lwg := lwg_4 94 (by decide +kernel) rfl
theorem ml_RJ0_492 : Cond.methodLink RJ0 492 yJ0_isLatin1_aae02 ∈ lwg := lwg_4 104 (by decide +kernel) rfl
theorem ml_RJ0_495 : Cond.methodLink RJ0 495 yJ1_charAt_3b067 ∈ lwg := lwg_4 108 (by decide +kernel) rfl
theorem ml_RJ0_1059 : Cond.methodLink RJ0 1059 yJ3_checkIndex_8e157 ∈ lwg := lwg_4 116 (by decide +kernel) rfl
theorem ml_RJ1_9 : Cond.methodLink RJ1 9 yJ0_checkIndex_df160 ∈ lwg := lwg_4 111 (by decide +kernel) rfl
theorem ml_RL_13 : Cond.methodLink RL 13 yX7_station ∈ lwg := lwg_2 85 (by decide +kernel) rfl
theorem ml_RL_17 : Cond.methodLink RL 17 yX8_station ∈ lwg := lwg_5 161 (by decide +kernel) rfl
theorem ml_RL_18 : Cond.methodLink RL 18 yX7_line ∈ lwg := lwg_2 102 (by decide +kernel) rfl
theorem ml_RL_22 : Cond.methodLink RL 22 yX8_line ∈ lwg := lwg_5 180 (by decide +kernel) rfl
theorem ml_RL_23 : Cond.methodLink RL 23 yX7_of ∈ lwg := lwg_2 123 (by decide +kernel) rfl
theorem ml_RL_26 : Cond.methodLink RL 26 yX8_of ∈ lwg := lwg_5 196 (by decide +kernel) rfl
theorem ml_RL_27 : Cond.methodLink RL 27 yX7_its ∈ lwg := lwg_2 141 (by decide +kernel) rfl
theorem ml_RL_30 : Cond.methodLink RL 30 yX8_its ∈ lwg := lwg_5 216 (by decide +kernel) rfl
theorem ml_RL_31 : Cond.methodLink RL 31 yX7_set ∈ lwg := lwg_2 165 (by decide +kernel) rfl
theorem ml_RL_35 : Cond.methodLink RL 35 yX8_set ∈ lwg := lwg_5 237 (by decide +kernel) rfl
theorem ml_RL_36 : Cond.methodLink RL 36 yX7_change ∈ lwg := lwg_2 176 (by decide +kernel) rfl
theorem ml_RL_39 : Cond.methodLink RL 39 yX8_change ∈ lwg := lwg_6 2 (by decide +kernel) rfl
theorem ml_RL_40 : Cond.methodLink RL 40 yX7_as ∈ lwg := lwg_2 192 (by decide +kernel) rfl
theorem ml_RL_43 : Cond.methodLink RL 43 yX8_as ∈ lwg := lwg_6 11 (by decide +kernel) rfl
theorem ml_RL_44 : Cond.methodLink RL 44 yX7_stands ∈ lwg := lwg_2 202 (by decide +kernel) rfl
theorem ml_RL_47 : Cond.methodLink RL 47 yX8_stands ∈ lwg := lwg_6 16 (by decide +kernel) rfl
theorem ml_RL_48 : Cond.methodLink RL 48 yX7_send ∈ lwg := lwg_2 208 (by decide +kernel) rfl
theorem ml_RL_51 : Cond.methodLink RL 51 yX8_send ∈ lwg := lwg_6 20 (by decide +kernel) rfl
theorem ml_RL_52 : Cond.methodLink RL 52 yX7_go ∈ lwg := lwg_2 219 (by decide +kernel) rfl
theorem ml_RL_56 : Cond.methodLink RL 56 yX8_go ∈ lwg := lwg_6 34 (by decide +kernel) rfl
theorem ml_RL_57 : Cond.methodLink RL 57 yX7_now ∈ lwg := lwg_2 229 (by decide +kernel) rfl
theorem ml_RL_60 : Cond.methodLink RL 60 yX8_now ∈ lwg := lwg_6 43 (by decide +kernel) rfl
theorem ml_RL_61 : Cond.methodLink RL 61 yX7_most ∈ lwg := lwg_3 17 (by decide +kernel) rfl
theorem ml_RL_64 : Cond.methodLink RL 64 yX8_most ∈ lwg := lwg_6 67 (by decide +kernel) rfl
theorem ml_RL_65 : Cond.methodLink RL 65 yX7_quick ∈ lwg := lwg_3 95 (by decide +kernel) rfl
theorem ml_RL_68 : Cond.methodLink RL 68 yX8_quick ∈ lwg := lwg_6 119 (by decide +kernel) rfl
theorem ml_RL_69 : Cond.methodLink RL 69 yX7_all ∈ lwg := lwg_3 104 (by decide +kernel) rfl
theorem ml_RL_72 : Cond.methodLink RL 72 yX8_all ∈ lwg := lwg_6 128 (by decide +kernel) rfl
theorem ml_RL_73 : Cond.methodLink RL 73 yX7_near ∈ lwg := lwg_3 114 (by decide +kernel) rfl
theorem ml_RL_76 : Cond.methodLink RL 76 yX8_near ∈ lwg := lwg_6 136 (by decide +kernel) rfl
theorem ml_RL_77 : Cond.methodLink RL 77 yX7_cost ∈ lwg := lwg_3 126 (by decide +kernel) rfl
theorem ml_RL_80 : Cond.methodLink RL 80 yX8_cost ∈ lwg := lwg_6 140 (by decide +kernel) rfl
theorem ml_RL_81 : Cond.methodLink RL 81 yX7_lose ∈ lwg := lwg_3 151 (by decide +kernel) rfl
theorem ml_RL_84 : Cond.methodLink RL 84 yX8_lose ∈ lwg := lwg_6 149 (by decide +kernel) rfl
theorem ml_RL_85 : Cond.methodLink RL 85 yX7_widen ∈ lwg := lwg_3 171 (by decide +kernel) rfl
theorem ml_RL_88 : Cond.methodLink RL 88 yX8_widen ∈ lwg := lwg_6 153 (by decide +kernel) rfl
theorem ml_RL_89 : Cond.methodLink RL 89 yX7_held ∈ lwg := lwg_3 197 (by decide +kernel) rfl
theorem ml_RL_92 : Cond.methodLink RL 92 yX8_held ∈ lwg := lwg_6 157 (by decide +kernel) rfl
theorem ml_RL_93 : Cond.methodLink RL 93 yX7_begin ∈ lwg := lwg_3 202 (by decide +kernel) rfl
theorem ml_RL_96 : Cond.methodLink RL 96 yX8_begin ∈ lwg := lwg_6 161 (by decide +kernel) rfl
theorem ml_RL_97 : Cond.methodLink RL 97 yX7_kind ∈ lwg := lwg_3 210 (by decide +kernel) rfl
theorem ml_RL_100 : Cond.methodLink RL 100 yX8_kind ∈ lwg := lwg_6 165 (by decide +kernel) rfl
theorem ml_RL_101 : Cond.methodLink RL 101 yX7_goal ∈ lwg := lwg_3 214 (by decide +kernel) rfl
theorem ml_RL_104 : Cond.methodLink RL 104 yX8_goal ∈ lwg := lwg_6 169 (by decide +kernel) rfl
theorem ml_RL_105 : Cond.methodLink RL 105 yX7_steady ∈ lwg := lwg_3 218 (by decide +kernel) rfl
theorem ml_RL_108 : Cond.methodLink RL 108 yX8_steady ∈ lwg := lwg_6 173 (by decide +kernel) rfl
theorem ml_RL_109 : Cond.methodLink RL 109 yX7_rate ∈ lwg := lwg_4 27 (by decide +kernel) rfl
theorem ml_RL_112 : Cond.methodLink RL 112 yX8_rate ∈ lwg := lwg_6 204 (by decide +kernel) rfl
theorem ml_RL_113 : Cond.methodLink RL 113 yX7_gain ∈ lwg := lwg_4 31 (by decide +kernel) rfl
theorem ml_RL_116 : Cond.methodLink RL 116 yX8_gain ∈ lwg := lwg_6 208 (by decide +kernel) rfl
theorem ml_RL_117 : Cond.methodLink RL 117 yX7_reach ∈ lwg := lwg_4 35 (by decide +kernel) rfl
theorem ml_RL_120 : Cond.methodLink RL 120 yX8_reach ∈ lwg := lwg_6 213 (by decide +kernel) rfl
theorem ml_RL_121 : Cond.methodLink RL 121 yX7_feed ∈ lwg := lwg_4 46 (by decide +kernel) rfl
theorem ml_RL_124 : Cond.methodLink RL 124 yX8_feed ∈ lwg := lwg_6 218 (by decide +kernel) rfl
theorem ml_RL_125 : Cond.methodLink RL 125 yX7_wipe ∈ lwg := lwg_4 54 (by decide +kernel) rfl
theorem ml_RL_129 : Cond.methodLink RL 129 yX8_wipe ∈ lwg := lwg_6 223 (by decide +kernel) rfl
theorem ml_RL_130 : Cond.methodLink RL 130 yX7_text ∈ lwg := lwg_4 58 (by decide +kernel) rfl
theorem ml_RL_133 : Cond.methodLink RL 133 yX8_text ∈ lwg := lwg_6 227 (by decide +kernel) rfl
theorem ml_RL_134 : Cond.methodLink RL 134 yX7_sheet ∈ lwg := lwg_4 189 (by decide +kernel) rfl
theorem ml_RL_137 : Cond.methodLink RL 137 yX8_sheet ∈ lwg := lwg_7 31 (by decide +kernel) rfl
theorem ml_RL_140 : Cond.methodLink RL 140 yX7_write ∈ lwg := lwg_4 204 (by decide +kernel) rfl
theorem ml_RL_144 : Cond.methodLink RL 144 yX8_write ∈ lwg := lwg_7 36 (by decide +kernel) rfl
theorem ml_RL_145 : Cond.methodLink RL 145 yX7_copy ∈ lwg := lwg_4 212 (by decide +kernel) rfl
theorem ml_RL_148 : Cond.methodLink RL 148 yX8_copy ∈ lwg := lwg_7 43 (by decide +kernel) rfl
theorem ml_RL_149 : Cond.methodLink RL 149 yX7_lays ∈ lwg := lwg_4 221 (by decide +kernel) rfl
theorem ml_RL_152 : Cond.methodLink RL 152 yX8_lays ∈ lwg := lwg_7 47 (by decide +kernel) rfl
theorem ml_RL_153 : Cond.methodLink RL 153 yX7_book ∈ lwg := lwg_4 226 (by decide +kernel) rfl
theorem ml_RL_156 : Cond.methodLink RL 156 yX8_book ∈ lwg := lwg_7 51 (by decide +kernel) rfl
theorem ml_RL_157 : Cond.methodLink RL 157 yX7_replay ∈ lwg := lwg_4 231 (by decide +kernel) rfl
theorem ml_RL_160 : Cond.methodLink RL 160 yX8_replay ∈ lwg := lwg_7 55 (by decide +kernel) rfl
theorem ml_RL_161 : Cond.methodLink RL 161 yX7_run ∈ lwg := lwg_5 9 (by decide +kernel) rfl
theorem ml_RL_164 : Cond.methodLink RL 164 yX8_run ∈ lwg := lwg_7 87 (by decide +kernel) rfl
theorem ml_RL_165 : Cond.methodLink RL 165 yX7_image ∈ lwg := lwg_5 13 (by decide +kernel) rfl
theorem ml_RL_168 : Cond.methodLink RL 168 yX8_image ∈ lwg := lwg_7 91 (by decide +kernel) rfl
theorem ml_RL_169 : Cond.methodLink RL 169 yX7_undo ∈ lwg := lwg_5 17 (by decide +kernel) rfl
theorem ml_RL_172 : Cond.methodLink RL 172 yX8_undo ∈ lwg := lwg_7 95 (by decide +kernel) rfl
theorem ml_RL_173 : Cond.methodLink RL 173 yX7_tear ∈ lwg := lwg_5 21 (by decide +kernel) rfl
theorem ml_RL_176 : Cond.methodLink RL 176 yX8_tear ∈ lwg := lwg_7 99 (by decide +kernel) rfl
theorem ml_RL_177 : Cond.methodLink RL 177 yX7_count ∈ lwg := lwg_5 25 (by decide +kernel) rfl
theorem ml_RL_180 : Cond.methodLink RL 180 yX8_count ∈ lwg := lwg_7 103 (by decide +kernel) rfl
theorem ml_RL_181 : Cond.methodLink RL 181 yX7_status ∈ lwg := lwg_5 29 (by decide +kernel) rfl
theorem ml_RL_184 : Cond.methodLink RL 184 yX8_status ∈ lwg := lwg_7 107 (by decide +kernel) rfl
theorem ml_RX0_43 : Cond.methodLink RX0 43 arraycopyName ∈ lwg := lwg_3 196 (by decide +kernel) rfl
theorem ml_RX0_49 : Cond.methodLink RX0 49 Lib.Math.max.name ∈ lwg := lwg_2 157 (by decide +kernel) rfl
theorem ml_RX0_56 : Cond.methodLink RX0 56 yX0_setting ∈ lwg := lwg_2 191 (by decide +kernel) rfl
theorem ml_RX1_65 : Cond.methodLink RX1 65 yJ7_fill_53178 ∈ lwg := lwg_3 33 (by decide +kernel) rfl
theorem ml_RX1_71 : Cond.methodLink RX1 71 yX1_addTick ∈ lwg := lwg_3 38 (by decide +kernel) rfl
theorem ml_RX1_75 : Cond.methodLink RX1 75 Lib.Math.max.name ∈ lwg := lwg_3 69 (by decide +kernel) rfl
theorem ml_RX1_81 : Cond.methodLink RX1 81 yX1_findLevels ∈ lwg := lwg_3 70 (by decide +kernel) rfl
theorem ml_RX1_85 : Cond.methodLink RX1 85 yX1_fill ∈ lwg := lwg_3 74 (by decide +kernel) rfl
theorem ml_RX1_92 : Cond.methodLink RX1 92 yX6_supply ∈ lwg := lwg_3 42 (by decide +kernel) rfl
theorem ml_RX1_95 : Cond.methodLink RX1 95 yX1_node ∈ lwg := lwg_3 46 (by decide +kernel) rfl
theorem ml_RX1_98 : Cond.methodLink RX1 98 yX1_addArc ∈ lwg := lwg_3 50 (by decide +kernel) rfl
theorem ml_RX1_109 : Cond.methodLink RX1 109 yX3_holds ∈ lwg := lwg_3 58 (by decide +kernel) rfl
theorem ml_RX1_122 : Cond.methodLink RX1 122 yX0_takes ∈ lwg := lwg_3 59 (by decide +kernel) rfl
theorem ml_RX1_135 : Cond.methodLink RX1 135 yX6_roomAhead ∈ lwg := lwg_3 61 (by decide +kernel) rfl
theorem ml_RX1_139 : Cond.methodLink RX1 139 yX1_putArc ∈ lwg := lwg_3 54 (by decide +kernel) rfl
theorem ml_RX1_143 : Cond.methodLink RX1 143 arraycopyName ∈ lwg := lwg_3 78 (by decide +kernel) rfl
theorem ml_RX1_150 : Cond.methodLink RX1 150 yX1_push ∈ lwg := lwg_3 82 (by decide +kernel) rfl
theorem ml_RX1_153 : Cond.methodLink RX1 153 yX1_nextDown ∈ lwg := lwg_3 87 (by decide +kernel) rfl
theorem ml_RX1_156 : Cond.methodLink RX1 156 yX1_leadsDown ∈ lwg := lwg_3 91 (by decide +kernel) rfl
theorem ml_RX1_160 : Cond.methodLink RX1 160 Lib.Math.min.name ∈ lwg := lwg_3 86 (by decide +kernel) rfl
theorem ml_RX1_163 : Cond.methodLink RX1 163 yX1_ticksNear ∈ lwg := lwg_3 179 (by decide +kernel) rfl
theorem ml_RX1_166 : Cond.methodLink RX1 166 yX1_peak ∈ lwg := lwg_3 159 (by decide +kernel) rfl
theorem ml_RX2_22 : Cond.methodLink RX2 22 yJ7_fill_d0a16 ∈ lwg := lwg_4 200 (by decide +kernel) rfl
theorem ml_RX4_35 : Cond.methodLink RX4 35 yJ7_fill_53178 ∈ lwg := lwg_3 226 (by decide +kernel) rfl
theorem ml_RX4_53 : Cond.methodLink RX4 53 yX0_room ∈ lwg := lwg_3 227 (by decide +kernel) rfl
theorem ml_RX4_60 : Cond.methodLink RX4 60 yX4_findQuickest ∈ lwg := lwg_3 229 (by decide +kernel) rfl
theorem ml_RX4_64 : Cond.methodLink RX4 64 yX4_narrowest ∈ lwg := lwg_4 10 (by decide +kernel) rfl
theorem ml_RX4_68 : Cond.methodLink RX4 68 yX4_push ∈ lwg := lwg_4 16 (by decide +kernel) rfl
theorem ml_RX4_76 : Cond.methodLink RX4 76 yX4_improve ∈ lwg := lwg_3 233 (by decide +kernel) rfl
theorem ml_RX4_80 : Cond.methodLink RX4 80 yX4_tail ∈ lwg := lwg_3 237 (by decide +kernel) rfl
theorem ml_RX4_83 : Cond.methodLink RX4 83 yX4_room ∈ lwg := lwg_4 1 (by decide +kernel) rfl
theorem ml_RX4_84 : Cond.methodLink RX4 84 yX0_takes ∈ lwg := lwg_4 5 (by decide +kernel) rfl
theorem ml_RX4_88 : Cond.methodLink RX4 88 yX4_head ∈ lwg := lwg_4 6 (by decide +kernel) rfl
theorem ml_RX4_98 : Cond.methodLink RX4 98 Lib.Math.min.name ∈ lwg := lwg_4 15 (by decide +kernel) rfl
theorem ml_RX4_107 : Cond.methodLink RX4 107 yX4_behind ∈ lwg := lwg_4 45 (by decide +kernel) rfl
theorem ml_RX5_25 : Cond.methodLink RX5 25 yX5_readToken ∈ lwg := lwg_4 66 (by decide +kernel) rfl
theorem ml_RX5_31 : Cond.methodLink RX5 31 yX5_fail ∈ lwg := lwg_4 169 (by decide +kernel) rfl
theorem ml_RX5_37 : Cond.methodLink RX5 37 yX5_sortOf ∈ lwg := lwg_4 70 (by decide +kernel) rfl
theorem ml_RX5_41 : Cond.methodLink RX5 41 yX5_valueOfToken ∈ lwg := lwg_4 73 (by decide +kernel) rfl
theorem ml_RX5_48 : Cond.methodLink RX5 48 yJ0_length_8abf5 ∈ lwg := lwg_4 90 (by decide +kernel) rfl
theorem ml_RX5_53 : Cond.methodLink RX5 53 yJ0_charAt_5068e ∈ lwg := lwg_4 100 (by decide +kernel) rfl
theorem ml_RX5_57 : Cond.methodLink RX5 57 yX5_isWord ∈ lwg := lwg_4 86 (by decide +kernel) rfl
theorem ml_RX5_65 : Cond.methodLink RX5 65 yX5_takeWord ∈ lwg := lwg_4 160 (by decide +kernel) rfl
theorem ml_RX5_68 : Cond.methodLink RX5 68 yX5_takeNumber ∈ lwg := lwg_4 164 (by decide +kernel) rfl
theorem ml_RX5_92 : Cond.methodLink RX5 92 yX5_stationKind ∈ lwg := lwg_4 81 (by decide +kernel) rfl
theorem ml_RX5_95 : Cond.methodLink RX5 95 yX5_lineKind ∈ lwg := lwg_4 141 (by decide +kernel) rfl
theorem ml_RX5_103 : Cond.methodLink RX5 103 yX5_readStation ∈ lwg := lwg_4 151 (by decide +kernel) rfl
theorem ml_RX5_110 : Cond.methodLink RX5 110 yX5_readLine ∈ lwg := lwg_4 175 (by decide +kernel) rfl
theorem ml_RX5_115 : Cond.methodLink RX5 115 yX5_takeOption ∈ lwg := lwg_4 156 (by decide +kernel) rfl
theorem ml_RX5_125 : Cond.methodLink RX5 125 yX6_addStation ∈ lwg := lwg_4 174 (by decide +kernel) rfl
theorem ml_RX5_136 : Cond.methodLink RX5 136 yX6_addLine ∈ lwg := lwg_4 179 (by decide +kernel) rfl
theorem ml_RX6_38 : Cond.methodLink RX6 38 yX3_become ∈ lwg := lwg_3 188 (by decide +kernel) rfl
theorem ml_RX6_42 : Cond.methodLink RX6 42 yX0_become ∈ lwg := lwg_3 192 (by decide +kernel) rfl
theorem ml_RX6_49 : Cond.methodLink RX6 49 yX6_hasStation ∈ lwg := lwg_2 110 (by decide +kernel) rfl
theorem ml_RX6_86 : Cond.methodLink RX6 86 yJ7_fill_53178 ∈ lwg := lwg_2 120 (by decide +kernel) rfl
theorem ml_RX6_92 : Cond.methodLink RX6 92 yX0_room ∈ lwg := lwg_2 216 (by decide +kernel) rfl
theorem ml_RX6_96 : Cond.methodLink RX6 96 yX0_takes ∈ lwg := lwg_2 217 (by decide +kernel) rfl
theorem ml_RX6_100 : Cond.methodLink RX6 100 yX3_holds ∈ lwg := lwg_2 228 (by decide +kernel) rfl
theorem ml_RX6_112 : Cond.methodLink RX6 112 yX6_dispatch ∈ lwg := lwg_5 7 (by decide +kernel) rfl
theorem ml_RX6_116 : Cond.methodLink RX6 116 yX6_passTick ∈ lwg := lwg_5 8 (by decide +kernel) rfl
theorem ml_RX6_119 : Cond.methodLink RX6 119 yX0_underWay ∈ lwg := lwg_2 137 (by decide +kernel) rfl
theorem ml_RX6_122 : Cond.methodLink RX6 122 yX6_allStock ∈ lwg := lwg_3 112 (by decide +kernel) rfl
theorem ml_RX6_125 : Cond.methodLink RX6 125 yX6_allUnderWay ∈ lwg := lwg_3 113 (by decide +kernel) rfl
theorem ml_RX6_128 : Cond.methodLink RX6 128 Lib.Math.min.name ∈ lwg := lwg_3 65 (by decide +kernel) rfl
theorem ml_RX6_134 : Cond.methodLink RX6 134 Lib.Math.max.name ∈ lwg := lwg_3 68 (by decide +kernel) rfl
theorem ml_RX6_137 : Cond.methodLink RX6 137 yX2_entry ∈ lwg := lwg_3 143 (by decide +kernel) rfl
theorem ml_RX6_140 : Cond.methodLink RX6 140 yX6_supply ∈ lwg := lwg_3 144 (by decide +kernel) rfl
theorem ml_RX6_144 : Cond.methodLink RX6 144 yX6_roomAhead ∈ lwg := lwg_3 150 (by decide +kernel) rfl
theorem ml_RX7_54 : Cond.methodLink RX7 54 yX7_isIn ∈ lwg := lwg_2 89 (by decide +kernel) rfl
theorem ml_RX7_59 : Cond.methodLink RX7 59 yX7_found ∈ lwg := lwg_2 93 (by decide +kernel) rfl
theorem ml_RX7_68 : Cond.methodLink RX7 68 yX6_addStation ∈ lwg := lwg_2 98 (by decide +kernel) rfl
theorem ml_RX7_72 : Cond.methodLink RX7 72 yX6_areTwo ∈ lwg := lwg_2 106 (by decide +kernel) rfl
theorem ml_RX7_79 : Cond.methodLink RX7 79 yX6_addLine ∈ lwg := lwg_2 115 (by decide +kernel) rfl
theorem ml_RX7_95 : Cond.methodLink RX7 95 yX6_hasStation ∈ lwg := lwg_2 127 (by decide +kernel) rfl
theorem ml_RX7_117 : Cond.methodLink RX7 117 yX3_holds ∈ lwg := lwg_2 128 (by decide +kernel) rfl
theorem ml_RX7_120 : Cond.methodLink RX7 120 yX6_comingTo ∈ lwg := lwg_2 133 (by decide +kernel) rfl
theorem ml_RX7_123 : Cond.methodLink RX7 123 yX6_hasLine ∈ lwg := lwg_2 145 (by decide +kernel) rfl
theorem ml_RX7_126 : Cond.methodLink RX7 126 yX0_room ∈ lwg := lwg_2 149 (by decide +kernel) rfl
theorem ml_RX7_129 : Cond.methodLink RX7 129 yX0_takes ∈ lwg := lwg_2 153 (by decide +kernel) rfl
theorem ml_RX7_136 : Cond.methodLink RX7 136 yX0_underWay ∈ lwg := lwg_2 160 (by decide +kernel) rfl
theorem ml_RX7_139 : Cond.methodLink RX7 139 yX0_setting ∈ lwg := lwg_2 161 (by decide +kernel) rfl
theorem ml_RX7_142 : Cond.methodLink RX7 142 yX3_greatest ∈ lwg := lwg_2 169 (by decide +kernel) rfl
theorem ml_RX7_145 : Cond.methodLink RX7 145 yX3_replace ∈ lwg := lwg_2 172 (by decide +kernel) rfl
theorem ml_RX7_154 : Cond.methodLink RX7 154 yX0_least ∈ lwg := lwg_2 180 (by decide +kernel) rfl
theorem ml_RX7_157 : Cond.methodLink RX7 157 yX0_greatest ∈ lwg := lwg_2 183 (by decide +kernel) rfl
theorem ml_RX7_158 : Cond.methodLink RX7 158 yX0_replace ∈ lwg := lwg_2 187 (by decide +kernel) rfl
theorem ml_RX7_163 : Cond.methodLink RX7 163 yX7_isUnder ∈ lwg := lwg_2 198 (by decide +kernel) rfl
theorem ml_RX7_171 : Cond.methodLink RX7 171 yX6_dispatch ∈ lwg := lwg_2 212 (by decide +kernel) rfl
theorem ml_RX7_177 : Cond.methodLink RX7 177 yX6_passTick ∈ lwg := lwg_2 224 (by decide +kernel) rfl
theorem ml_RX7_183 : Cond.methodLink RX7 183 yX6_allStock ∈ lwg := lwg_2 233 (by decide +kernel) rfl
theorem ml_RX7_186 : Cond.methodLink RX7 186 yX6_allUnderWay ∈ lwg := lwg_2 237 (by decide +kernel) rfl
theorem ml_RX7_189 : Cond.methodLink RX7 189 yX6_allSent ∈ lwg := lwg_3 1 (by decide +kernel) rfl
theorem ml_RX7_192 : Cond.methodLink RX7 192 yX6_allRoom ∈ lwg := lwg_3 5 (by decide +kernel) rfl
theorem ml_RX7_195 : Cond.methodLink RX7 195 yX6_losingStations ∈ lwg := lwg_3 9 (by decide +kernel) rfl
theorem ml_RX7_198 : Cond.methodLink RX7 198 yX6_openLines ∈ lwg := lwg_3 13 (by decide +kernel) rfl
theorem ml_RX7_201 : Cond.methodLink RX7 201 yX7_isAsked ∈ lwg := lwg_3 21 (by decide +kernel) rfl
theorem ml_RX7_204 : Cond.methodLink RX7 204 yX7_mostIn ∈ lwg := lwg_3 25 (by decide +kernel) rfl
theorem ml_RX7_208 : Cond.methodLink RX7 208 yX7_ticksUntil ∈ lwg := lwg_3 99 (by decide +kernel) rfl
theorem ml_RX7_212 : Cond.methodLink RX7 212 yX6_allGoods ∈ lwg := lwg_3 108 (by decide +kernel) rfl
theorem ml_RX7_215 : Cond.methodLink RX7 215 yX1_searchNear ∈ lwg := lwg_3 118 (by decide +kernel) rfl
theorem ml_RX7_218 : Cond.methodLink RX7 218 yX1_ticksNear ∈ lwg := lwg_3 122 (by decide +kernel) rfl
theorem ml_RX7_221 : Cond.methodLink RX7 221 yX7_sheetFault ∈ lwg := lwg_3 130 (by decide +kernel) rfl
theorem ml_RX7_224 : Cond.methodLink RX7 224 yX2_entry ∈ lwg := lwg_3 135 (by decide +kernel) rfl
theorem ml_RX7_227 : Cond.methodLink RX7 227 yX6_costOutside ∈ lwg := lwg_3 139 (by decide +kernel) rfl
theorem ml_RX7_231 : Cond.methodLink RX7 231 yX6_costOfLines ∈ lwg := lwg_3 145 (by decide +kernel) rfl
theorem ml_RX7_234 : Cond.methodLink RX7 234 yX1_busyLines ∈ lwg := lwg_3 155 (by decide +kernel) rfl
theorem ml_RX7_237 : Cond.methodLink RX7 237 yX7_mostHeld ∈ lwg := lwg_3 163 (by decide +kernel) rfl
theorem ml_RX7_241 : Cond.methodLink RX7 241 yX1_stationsNear ∈ lwg := lwg_3 175 (by decide +kernel) rfl
theorem ml_RX7_244 : Cond.methodLink RX7 244 yX7_mostWidened ∈ lwg := lwg_3 180 (by decide +kernel) rfl
theorem ml_RX7_247 : Cond.methodLink RX7 247 yX1_peak ∈ lwg := lwg_3 201 (by decide +kernel) rfl
theorem ml_RX7_250 : Cond.methodLink RX7 250 yX1_canStillSendFrom ∈ lwg := lwg_3 206 (by decide +kernel) rfl
theorem ml_RX7_253 : Cond.methodLink RX7 253 yX6_become ∈ lwg := lwg_3 184 (by decide +kernel) rfl
theorem ml_RX7_257 : Cond.methodLink RX7 257 yX4_solve ∈ lwg := lwg_3 222 (by decide +kernel) rfl
theorem ml_RX7_261 : Cond.methodLink RX7 261 yX4_behind ∈ lwg := lwg_4 21 (by decide +kernel) rfl
theorem ml_RX7_274 : Cond.methodLink RX7 274 yX4_ticksUntil ∈ lwg := lwg_4 39 (by decide +kernel) rfl
theorem ml_RX7_280 : Cond.methodLink RX7 280 yX5_add ∈ lwg := lwg_4 50 (by decide +kernel) rfl
theorem ml_RX7_284 : Cond.methodLink RX7 284 yX5_start ∈ lwg := lwg_4 62 (by decide +kernel) rfl
theorem ml_RX7_287 : Cond.methodLink RX7 287 yX5_readItem ∈ lwg := lwg_4 77 (by decide +kernel) rfl
theorem ml_RX7_290 : Cond.methodLink RX7 290 yX5_takeSign ∈ lwg := lwg_4 184 (by decide +kernel) rfl
theorem ml_RX7_297 : Cond.methodLink RX7 297 yX2_hasBits ∈ lwg := lwg_4 193 (by decide +kernel) rfl
theorem ml_RX7_300 : Cond.methodLink RX7 300 yX2_renew ∈ lwg := lwg_4 196 (by decide +kernel) rfl
theorem ml_RX7_310 : Cond.methodLink RX7 310 yX2_put ∈ lwg := lwg_4 208 (by decide +kernel) rfl
theorem ml_RX7_318 : Cond.methodLink RX7 318 yX2_hasPart ∈ lwg := lwg_4 216 (by decide +kernel) rfl
theorem ml_RX7_321 : Cond.methodLink RX7 321 arraycopyName ∈ lwg := lwg_4 220 (by decide +kernel) rfl
theorem ml_RX7_329 : Cond.methodLink RX7 329 Lib.Math.min.name ∈ lwg := lwg_4 230 (by decide +kernel) rfl
theorem ml_RX7_334 : Cond.methodLink RX7 334 yX1_open ∈ lwg := lwg_3 29 (by decide +kernel) rfl
theorem ml_RX7_338 : Cond.methodLink RX7 338 yX1_flowBehind ∈ lwg := lwg_3 34 (by decide +kernel) rfl
theorem ml_RX7_341 : Cond.methodLink RX7 341 yX7_planFault ∈ lwg := lwg_4 235 (by decide +kernel) rfl
theorem ml_RX7_344 : Cond.methodLink RX7 344 yX7_follow ∈ lwg := lwg_4 239 (by decide +kernel) rfl
theorem ml_RX7_351 : Cond.methodLink RX7 351 yX6_follow ∈ lwg := lwg_5 3 (by decide +kernel) rfl
theorem ml_RX7_353 : Cond.methodLink RX7 353 yX1_hold ∈ lwg := lwg_3 167 (by decide +kernel) rfl
theorem ml_RX8_101 : Cond.methodLink RX8 101 yX8_in ∈ lwg := lwg_5 166 (by decide +kernel) rfl
theorem ml_RX8_109 : Cond.methodLink RX8 109 yX8_at ∈ lwg := lwg_5 208 (by decide +kernel) rfl
theorem ml_RX8_113 : Cond.methodLink RX8 113 yX8_roomBy ∈ lwg := lwg_5 229 (by decide +kernel) rfl
theorem ml_RX8_117 : Cond.methodLink RX8 117 yX8_sumOf ∈ lwg := lwg_6 47 (by decide +kernel) rfl
theorem ml_RX8_121 : Cond.methodLink RX8 121 yX8_allOnWay ∈ lwg := lwg_6 51 (by decide +kernel) rfl
theorem ml_RX8_129 : Cond.methodLink RX8 129 yX8_finds ∈ lwg := lwg_5 171 (by decide +kernel) rfl
theorem ml_RX8_134 : Cond.methodLink RX8 134 yX8_addStation ∈ lwg := lwg_5 176 (by decide +kernel) rfl
theorem ml_RX8_140 : Cond.methodLink RX8 140 yX8_isStation ∈ lwg := lwg_5 185 (by decide +kernel) rfl
theorem ml_RX8_148 : Cond.methodLink RX8 148 yX8_addLine ∈ lwg := lwg_5 191 (by decide +kernel) rfl
theorem ml_RX8_151 : Cond.methodLink RX8 151 yX8_onWay ∈ lwg := lwg_5 212 (by decide +kernel) rfl
theorem ml_RX8_157 : Cond.methodLink RX8 157 yX8_holds ∈ lwg := lwg_5 200 (by decide +kernel) rfl
theorem ml_RX8_160 : Cond.methodLink RX8 160 yX8_comesTo ∈ lwg := lwg_5 204 (by decide +kernel) rfl
theorem ml_RX8_163 : Cond.methodLink RX8 163 yX8_isLine ∈ lwg := lwg_5 220 (by decide +kernel) rfl
theorem ml_RX8_168 : Cond.methodLink RX8 168 yX8_room ∈ lwg := lwg_5 225 (by decide +kernel) rfl
theorem ml_RX8_171 : Cond.methodLink RX8 171 yX8_takes ∈ lwg := lwg_5 233 (by decide +kernel) rfl
theorem ml_RX8_178 : Cond.methodLink RX8 178 yX8_mayBe ∈ lwg := lwg_6 6 (by decide +kernel) rfl
theorem ml_RX8_185 : Cond.methodLink RX8 185 yX8_canSend ∈ lwg := lwg_6 25 (by decide +kernel) rfl
theorem ml_RX8_190 : Cond.methodLink RX8 190 yX8_sends ∈ lwg := lwg_6 30 (by decide +kernel) rfl
theorem ml_RX8_199 : Cond.methodLink RX8 199 yX8_oneTick ∈ lwg := lwg_6 39 (by decide +kernel) rfl
theorem ml_RX8_202 : Cond.methodLink RX8 202 yX8_roomOfAll ∈ lwg := lwg_6 55 (by decide +kernel) rfl
theorem ml_RX8_205 : Cond.methodLink RX8 205 yX8_losing ∈ lwg := lwg_6 59 (by decide +kernel) rfl
theorem ml_RX8_208 : Cond.methodLink RX8 208 yX8_openLines ∈ lwg := lwg_6 63 (by decide +kernel) rfl
theorem ml_RX8_214 : Cond.methodLink RX8 214 yX8_meets ∈ lwg := lwg_6 95 (by decide +kernel) rfl
theorem ml_RX8_217 : Cond.methodLink RX8 217 yX8_spreads ∈ lwg := lwg_6 99 (by decide +kernel) rfl
theorem ml_RX8_220 : Cond.methodLink RX8 220 yX8_searches ∈ lwg := lwg_6 91 (by decide +kernel) rfl
theorem ml_RX8_223 : Cond.methodLink RX8 223 yX8_behind ∈ lwg := lwg_6 103 (by decide +kernel) rfl
theorem ml_RX8_226 : Cond.methodLink RX8 226 yX8_leftFor ∈ lwg := lwg_6 107 (by decide +kernel) rfl
theorem ml_RX8_229 : Cond.methodLink RX8 229 yX8_moves ∈ lwg := lwg_6 111 (by decide +kernel) rfl
theorem ml_RX8_232 : Cond.methodLink RX8 232 yX8_layOut ∈ lwg := lwg_6 83 (by decide +kernel) rfl
theorem ml_RX8_236 : Cond.methodLink RX8 236 yX8_brings ∈ lwg := lwg_6 87 (by decide +kernel) rfl
theorem ml_RX8_239 : Cond.methodLink RX8 239 yX8_ownTill ∈ lwg := lwg_6 115 (by decide +kernel) rfl
theorem ml_RX8_242 : Cond.methodLink RX8 242 yX8_mostBy ∈ lwg := lwg_6 79 (by decide +kernel) rfl
theorem ml_RX8_248 : Cond.methodLink RX8 248 yX8_isAhead ∈ lwg := lwg_6 71 (by decide +kernel) rfl
theorem ml_RX8_251 : Cond.methodLink RX8 251 yX8_mostOf ∈ lwg := lwg_6 75 (by decide +kernel) rfl
theorem ml_RX8_254 : Cond.methodLink RX8 254 yX8_quickOf ∈ lwg := lwg_6 123 (by decide +kernel) rfl
theorem ml_RX8_258 : Cond.methodLink RX8 258 yX8_goods ∈ lwg := lwg_6 132 (by decide +kernel) rfl
theorem ml_RX8_261 : Cond.methodLink RX8 261 yX8_isSheet ∈ lwg := lwg_6 144 (by decide +kernel) rfl
theorem ml_RX8_268 : Cond.methodLink RX8 268 yX8_nearer ∈ lwg := lwg_6 190 (by decide +kernel) rfl
theorem ml_RX8_272 : Cond.methodLink RX8 272 yX8_measures ∈ lwg := lwg_6 185 (by decide +kernel) rfl
theorem ml_RX8_276 : Cond.methodLink RX8 276 yX8_stepBack ∈ lwg := lwg_6 194 (by decide +kernel) rfl
theorem ml_RX8_279 : Cond.methodLink RX8 279 yX8_areTwo ∈ lwg := lwg_6 177 (by decide +kernel) rfl
theorem ml_RX8_283 : Cond.methodLink RX8 283 yX8_findsGains ∈ lwg := lwg_6 181 (by decide +kernel) rfl
theorem ml_RX8_286 : Cond.methodLink RX8 286 yX8_steadyBehind ∈ lwg := lwg_6 198 (by decide +kernel) rfl
theorem ml_RX8_308 : Cond.methodLink RX8 308 yX8_byteAt ∈ lwg := lwg_6 235 (by decide +kernel) rfl
theorem ml_RX8_322 : Cond.methodLink RX8 322 yX8_isWordFrom ∈ lwg := lwg_7 3 (by decide +kernel) rfl
theorem ml_RX8_331 : Cond.methodLink RX8 331 yX8_next ∈ lwg := lwg_6 231 (by decide +kernel) rfl
theorem ml_RX8_334 : Cond.methodLink RX8 334 yX8_isWord ∈ lwg := lwg_7 19 (by decide +kernel) rfl
theorem ml_RX8_337 : Cond.methodLink RX8 337 yX8_takesNumber ∈ lwg := lwg_7 23 (by decide +kernel) rfl
theorem ml_RX8_340 : Cond.methodLink RX8 340 yX8_perhaps ∈ lwg := lwg_7 15 (by decide +kernel) rfl
theorem ml_RX8_343 : Cond.methodLink RX8 343 yX8_readsStation ∈ lwg := lwg_7 11 (by decide +kernel) rfl
theorem ml_RX8_346 : Cond.methodLink RX8 346 yX8_readsLine ∈ lwg := lwg_7 27 (by decide +kernel) rfl
theorem ml_RX8_349 : Cond.methodLink RX8 349 yX8_readsItem ∈ lwg := lwg_7 7 (by decide +kernel) rfl
theorem ml_RX8_354 : Cond.methodLink RX8 354 yX8_narrow ∈ lwg := lwg_7 40 (by decide +kernel) rfl
theorem ml_RX8_358 : Cond.methodLink RX8 358 yX8_sendsAll ∈ lwg := lwg_7 75 (by decide +kernel) rfl
theorem ml_RX8_361 : Cond.methodLink RX8 361 yX8_keeps ∈ lwg := lwg_7 63 (by decide +kernel) rfl
theorem ml_RX8_365 : Cond.methodLink RX8 365 yX8_goesBy ∈ lwg := lwg_7 71 (by decide +kernel) rfl
theorem ml_RX8_368 : Cond.methodLink RX8 368 yX8_comesBack ∈ lwg := lwg_7 79 (by decide +kernel) rfl
theorem ml_RX8_371 : Cond.methodLink RX8 371 yX8_plans ∈ lwg := lwg_7 59 (by decide +kernel) rfl
theorem ml_RX8_375 : Cond.methodLink RX8 375 yX8_puts ∈ lwg := lwg_7 67 (by decide +kernel) rfl
theorem ml_RX8_379 : Cond.methodLink RX8 379 yX8_gets ∈ lwg := lwg_7 83 (by decide +kernel) rfl
theorem mo_J0_charAt_5068e : MO mJ0_charAt_5068e := ⟨by decide +kernel, rfl, lwg_4 103 rfl rfl, lwg_1 13 (by decide +kernel) rfl, by decide +kernel, by decide +kernel⟩
theorem np_J0_charAt_5068e : npar mJ0_charAt_5068e 1 := (by decide +kernel : (parseMethodDescriptor yJ0_charAt_5068e.desc).map (fun q => q.parameters.length) = some 1)
theorem im_J0_charAt_5068e : Cond.instanceMethod yJ0_charAt_5068e ∈ lwg := lwg_4 101 (by decide +kernel) rfl
theorem se_J0_charAt_5068e : Cond.selects RJ0 yJ0_charAt_5068e yJ0_charAt_5068e ∈ lwg := lwg_4 102 (by decide +kernel) rfl
theorem mo_J0_checkIndex_df160 : MO mJ0_checkIndex_df160 := ⟨by decide +kernel, rfl, lwg_4 113 rfl rfl, lwg_1 13 (by decide +kernel) rfl, by decide +kernel, by decide +kernel⟩
theorem np_J0_checkIndex_df160 : npar mJ0_checkIndex_df160 2 := (by decide +kernel : (parseMethodDescriptor yJ0_checkIndex_df160.desc).map (fun q => q.parameters.length) = some 2)
theorem sc_J0_checkIndex_df160 : Cond.static yJ0_checkIndex_df160 ∈ lwg := lwg_4 112 (by decide +kernel) rfl
theorem mo_J0_coder_7d493 : MO mJ0_coder_7d493 := ⟨by decide +kernel, rfl, lwg_4 97 rfl rfl, lwg_1 13 (by decide +kernel) rfl, by decide +kernel, by decide +kernel⟩
theorem np_J0_coder_7d493 : npar mJ0_coder_7d493 0 := (by decide +kernel : (parseMethodDescriptor yJ0_coder_7d493.desc).map (fun q => q.parameters.length) = some 0)
theorem im_J0_coder_7d493 : Cond.instanceMethod yJ0_coder_7d493 ∈ lwg := lwg_4 95 (by decide +kernel) rfl
theorem se_J0_coder_7d493 : Cond.selects RJ0 yJ0_coder_7d493 yJ0_coder_7d493 ∈ lwg := lwg_4 96 (by decide +kernel) rfl
theorem mo_J0_isLatin1_aae02 : MO mJ0_isLatin1_aae02 := ⟨by decide +kernel, rfl, lwg_4 107 rfl rfl, lwg_1 13 (by decide +kernel) rfl, by decide +kernel, by decide +kernel⟩
theorem np_J0_isLatin1_aae02 : npar mJ0_isLatin1_aae02 0 := (by decide +kernel : (parseMethodDescriptor yJ0_isLatin1_aae02.desc).map (fun q => q.parameters.length) = some 0)
theorem im_J0_isLatin1_aae02 : Cond.instanceMethod yJ0_isLatin1_aae02 ∈ lwg := lwg_4 105 (by decide +kernel) rfl
theorem se_J0_isLatin1_aae02 : Cond.selects RJ0 yJ0_isLatin1_aae02 yJ0_isLatin1_aae02 ∈ lwg := lwg_4 106 (by decide +kernel) rfl
theorem mo_J0_length_8abf5 : MO mJ0_length_8abf5 := ⟨by decide +kernel, rfl, lwg_4 93 rfl rfl, lwg_1 13 (by decide +kernel) rfl, by decide +kernel, by decide +kernel⟩
theorem np_J0_length_8abf5 : npar mJ0_length_8abf5 0 := (by decide +kernel : (parseMethodDescriptor yJ0_length_8abf5.desc).map (fun q => q.parameters.length) = some 0)
theorem im_J0_length_8abf5 : Cond.instanceMethod yJ0_length_8abf5 ∈ lwg := lwg_4 91 (by decide +kernel) rfl
theorem se_J0_length_8abf5 : Cond.selects RJ0 yJ0_length_8abf5 yJ0_length_8abf5 ∈ lwg := lwg_4 92 (by decide +kernel) rfl
theorem mo_J1_charAt_3b067 : MO mJ1_charAt_3b067 := ⟨by decide +kernel, rfl, lwg_4 110 rfl rfl, lwg_1 14 (by decide +kernel) rfl, by decide +kernel, by decide +kernel⟩
theorem np_J1_charAt_3b067 : npar mJ1_charAt_3b067 2 := (by decide +kernel : (parseMethodDescriptor yJ1_charAt_3b067.desc).map (fun q => q.parameters.length) = some 2)
theorem sc_J1_charAt_3b067 : Cond.static yJ1_charAt_3b067 ∈ lwg := lwg_4 109 (by decide +kernel) rfl
theorem mo_J3_checkIndex_8e157 : MO mJ3_checkIndex_8e157 := ⟨by decide +kernel, rfl, lwg_4 118 rfl rfl, lwg_1 15 (by decide +kernel) rfl, by decide +kernel, by decide +kernel⟩
theorem np_J3_checkIndex_8e157 : npar mJ3_checkIndex_8e157 3 := (by decide +kernel : (parseMethodDescriptor yJ3_checkIndex_8e157.desc).map (fun q => q.parameters.length) = some 3)
theorem sc_J3_checkIndex_8e157 : Cond.static yJ3_checkIndex_8e157 ∈ lwg := lwg_4 117 (by decide +kernel) rfl
theorem mo_J7_fill_53178 : MO mJ7_fill_53178 := ⟨by decide +kernel, rfl, lwg_2 122 rfl rfl, lwg_1 10 (by decide +kernel) rfl, by decide +kernel, by decide +kernel⟩
theorem np_J7_fill_53178 : npar mJ7_fill_53178 2 := (by decide +kernel : (parseMethodDescriptor yJ7_fill_53178.desc).map (fun q => q.parameters.length) = some 2)
theorem sc_J7_fill_53178 : Cond.static yJ7_fill_53178 ∈ lwg := lwg_2 121 (by decide +kernel) rfl
theorem mo_J7_fill_d0a16 : MO mJ7_fill_d0a16 := ⟨by decide +kernel, rfl, lwg_4 202 rfl rfl, lwg_1 10 (by decide +kernel) rfl, by decide +kernel, by decide +kernel⟩
theorem np_J7_fill_d0a16 : npar mJ7_fill_d0a16 2 := (by decide +kernel : (parseMethodDescriptor yJ7_fill_d0a16.desc).map (fun q => q.parameters.length) = some 2)
theorem sc_J7_fill_d0a16 : Cond.static yJ7_fill_d0a16 ∈ lwg := lwg_4 201 (by decide +kernel) rfl
theorem mo_X0_become : MO mX0_become := ⟨by decide +kernel, rfl, lwg_3 195 rfl rfl, lwg_1 4 (by decide +kernel) rfl, by decide +kernel, by decide +kernel⟩
theorem np_X0_become : npar mX0_become 1 := (by decide +kernel : (parseMethodDescriptor yX0_become.desc).map (fun q => q.parameters.length) = some 1)
theorem im_X0_become : Cond.instanceMethod yX0_become ∈ lwg := lwg_3 193 (by decide +kernel) rfl
theorem se_X0_become : Cond.selects RX0 yX0_become yX0_become ∈ lwg := lwg_3 194 (by decide +kernel) rfl
theorem mo_X0_greatest : MO mX0_greatest := ⟨by decide +kernel, rfl, lwg_2 185 rfl rfl, lwg_1 4 (by decide +kernel) rfl, by decide +kernel, by decide +kernel⟩
theorem np_X0_greatest : npar mX0_greatest 1 := (by decide +kernel : (parseMethodDescriptor yX0_greatest.desc).map (fun q => q.parameters.length) = some 1)
theorem sc_X0_greatest : Cond.static yX0_greatest ∈ lwg := lwg_2 184 (by decide +kernel) rfl
theorem mo_X0_least : MO mX0_least := ⟨by decide +kernel, rfl, lwg_2 182 rfl rfl, lwg_1 4 (by decide +kernel) rfl, by decide +kernel, by decide +kernel⟩
theorem np_X0_least : npar mX0_least 1 := (by decide +kernel : (parseMethodDescriptor yX0_least.desc).map (fun q => q.parameters.length) = some 1)
theorem sc_X0_least : Cond.static yX0_least ∈ lwg := lwg_2 181 (by decide +kernel) rfl
theorem mo_X0_replace : MO mX0_replace := ⟨by decide +kernel, rfl, lwg_2 190 rfl rfl, lwg_1 4 (by decide +kernel) rfl, by decide +kernel, by decide +kernel⟩
theorem np_X0_replace : npar mX0_replace 2 := (by decide +kernel : (parseMethodDescriptor yX0_replace.desc).map (fun q => q.parameters.length) = some 2)
theorem im_X0_replace : Cond.instanceMethod yX0_replace ∈ lwg := lwg_2 188 (by decide +kernel) rfl
theorem se_X0_replace : Cond.selects RX0 yX0_replace yX0_replace ∈ lwg := lwg_2 189 (by decide +kernel) rfl
theorem mo_X0_room : MO mX0_room := ⟨by decide +kernel, rfl, lwg_2 152 rfl rfl, lwg_1 4 (by decide +kernel) rfl, by decide +kernel, by decide +kernel⟩
theorem np_X0_room : npar mX0_room 1 := (by decide +kernel : (parseMethodDescriptor yX0_room.desc).map (fun q => q.parameters.length) = some 1)
theorem im_X0_room : Cond.instanceMethod yX0_room ∈ lwg := lwg_2 150 (by decide +kernel) rfl
theorem se_X0_room : Cond.selects RX0 yX0_room yX0_room ∈ lwg := lwg_2 151 (by decide +kernel) rfl
theorem mo_X0_setting : MO mX0_setting := ⟨by decide +kernel, rfl, lwg_2 164 rfl rfl, lwg_1 4 (by decide +kernel) rfl, by decide +kernel, by decide +kernel⟩
theorem np_X0_setting : npar mX0_setting 1 := (by decide +kernel : (parseMethodDescriptor yX0_setting.desc).map (fun q => q.parameters.length) = some 1)
theorem im_X0_setting : Cond.instanceMethod yX0_setting ∈ lwg := lwg_2 162 (by decide +kernel) rfl
theorem se_X0_setting : Cond.selects RX0 yX0_setting yX0_setting ∈ lwg := lwg_2 163 (by decide +kernel) rfl
theorem mo_X0_takes : MO mX0_takes := ⟨by decide +kernel, rfl, lwg_2 156 rfl rfl, lwg_1 4 (by decide +kernel) rfl, by decide +kernel, by decide +kernel⟩
theorem np_X0_takes : npar mX0_takes 0 := (by decide +kernel : (parseMethodDescriptor yX0_takes.desc).map (fun q => q.parameters.length) = some 0)
theorem im_X0_takes : Cond.instanceMethod yX0_takes ∈ lwg := lwg_2 154 (by decide +kernel) rfl
theorem se_X0_takes : Cond.selects RX0 yX0_takes yX0_takes ∈ lwg := lwg_2 155 (by decide +kernel) rfl
theorem mo_X0_underWay : MO mX0_underWay := ⟨by decide +kernel, rfl, lwg_2 140 rfl rfl, lwg_1 4 (by decide +kernel) rfl, by decide +kernel, by decide +kernel⟩
theorem np_X0_underWay : npar mX0_underWay 0 := (by decide +kernel : (parseMethodDescriptor yX0_underWay.desc).map (fun q => q.parameters.length) = some 0)
theorem im_X0_underWay : Cond.instanceMethod yX0_underWay ∈ lwg := lwg_2 138 (by decide +kernel) rfl
theorem se_X0_underWay : Cond.selects RX0 yX0_underWay yX0_underWay ∈ lwg := lwg_2 139 (by decide +kernel) rfl
theorem mo_X1_addArc : MO mX1_addArc := ⟨by decide +kernel, rfl, lwg_3 53 rfl rfl, lwg_1 5 (by decide +kernel) rfl, by decide +kernel, by decide +kernel⟩
theorem np_X1_addArc : npar mX1_addArc 4 := (by decide +kernel : (parseMethodDescriptor yX1_addArc.desc).map (fun q => q.parameters.length) = some 4)
theorem im_X1_addArc : Cond.instanceMethod yX1_addArc ∈ lwg := lwg_3 52 (by decide +kernel) rfl
theorem se_X1_addArc : Cond.selects RX1 yX1_addArc yX1_addArc ∈ lwg := lwg_0 5 (by decide +kernel) rfl
theorem mo_X1_addTick : MO mX1_addTick := ⟨by decide +kernel, rfl, lwg_3 41 rfl rfl, lwg_1 5 (by decide +kernel) rfl, by decide +kernel, by decide +kernel⟩
theorem np_X1_addTick : npar mX1_addTick 1 := (by decide +kernel : (parseMethodDescriptor yX1_addTick.desc).map (fun q => q.parameters.length) = some 1)
theorem im_X1_addTick : Cond.instanceMethod yX1_addTick ∈ lwg := lwg_3 40 (by decide +kernel) rfl
theorem se_X1_addTick : Cond.selects RX1 yX1_addTick yX1_addTick ∈ lwg := lwg_0 3 (by decide +kernel) rfl
theorem mo_X1_busyLines : MO mX1_busyLines := ⟨by decide +kernel, rfl, lwg_3 158 rfl rfl, lwg_1 5 (by decide +kernel) rfl, by decide +kernel, by decide +kernel⟩
theorem np_X1_busyLines : npar mX1_busyLines 0 := (by decide +kernel : (parseMethodDescriptor yX1_busyLines.desc).map (fun q => q.parameters.length) = some 0)
theorem im_X1_busyLines : Cond.instanceMethod yX1_busyLines ∈ lwg := lwg_3 156 (by decide +kernel) rfl
theorem se_X1_busyLines : Cond.selects RX1 yX1_busyLines yX1_busyLines ∈ lwg := lwg_3 157 (by decide +kernel) rfl
theorem mo_X1_canStillSendFrom : MO mX1_canStillSendFrom := ⟨by decide +kernel, rfl, lwg_3 209 rfl rfl, lwg_1 5 (by decide +kernel) rfl, by decide +kernel, by decide +kernel⟩
theorem np_X1_canStillSendFrom : npar mX1_canStillSendFrom 1 := (by decide +kernel : (parseMethodDescriptor yX1_canStillSendFrom.desc).map (fun q => q.parameters.length) = some 1)
theorem im_X1_canStillSendFrom : Cond.instanceMethod yX1_canStillSendFrom ∈ lwg := lwg_3 207 (by decide +kernel) rfl
theorem se_X1_canStillSendFrom : Cond.selects RX1 yX1_canStillSendFrom yX1_canStillSendFrom ∈ lwg := lwg_3 208 (by decide +kernel) rfl
theorem mo_X1_fill : MO mX1_fill := ⟨by decide +kernel, rfl, lwg_3 77 rfl rfl, lwg_1 5 (by decide +kernel) rfl, by decide +kernel, by decide +kernel⟩
theorem np_X1_fill : npar mX1_fill 0 := (by decide +kernel : (parseMethodDescriptor yX1_fill.desc).map (fun q => q.parameters.length) = some 0)
theorem im_X1_fill : Cond.instanceMethod yX1_fill ∈ lwg := lwg_3 76 (by decide +kernel) rfl
theorem se_X1_fill : Cond.selects RX1 yX1_fill yX1_fill ∈ lwg := lwg_0 8 (by decide +kernel) rfl
theorem mo_X1_findLevels : MO mX1_findLevels := ⟨by decide +kernel, rfl, lwg_3 73 rfl rfl, lwg_1 5 (by decide +kernel) rfl, by decide +kernel, by decide +kernel⟩
theorem np_X1_findLevels : npar mX1_findLevels 0 := (by decide +kernel : (parseMethodDescriptor yX1_findLevels.desc).map (fun q => q.parameters.length) = some 0)
theorem im_X1_findLevels : Cond.instanceMethod yX1_findLevels ∈ lwg := lwg_3 72 (by decide +kernel) rfl
theorem se_X1_findLevels : Cond.selects RX1 yX1_findLevels yX1_findLevels ∈ lwg := lwg_0 7 (by decide +kernel) rfl
theorem mo_X1_flowBehind : MO mX1_flowBehind := ⟨by decide +kernel, rfl, lwg_3 37 rfl rfl, lwg_1 5 (by decide +kernel) rfl, by decide +kernel, by decide +kernel⟩
theorem np_X1_flowBehind : npar mX1_flowBehind 1 := (by decide +kernel : (parseMethodDescriptor yX1_flowBehind.desc).map (fun q => q.parameters.length) = some 1)
theorem im_X1_flowBehind : Cond.instanceMethod yX1_flowBehind ∈ lwg := lwg_3 35 (by decide +kernel) rfl
theorem se_X1_flowBehind : Cond.selects RX1 yX1_flowBehind yX1_flowBehind ∈ lwg := lwg_3 36 (by decide +kernel) rfl
theorem mo_X1_hold : MO mX1_hold := ⟨by decide +kernel, rfl, lwg_3 170 rfl rfl, lwg_1 5 (by decide +kernel) rfl, by decide +kernel, by decide +kernel⟩
theorem np_X1_hold : npar mX1_hold 2 := (by decide +kernel : (parseMethodDescriptor yX1_hold.desc).map (fun q => q.parameters.length) = some 2)
theorem im_X1_hold : Cond.instanceMethod yX1_hold ∈ lwg := lwg_3 168 (by decide +kernel) rfl
theorem se_X1_hold : Cond.selects RX1 yX1_hold yX1_hold ∈ lwg := lwg_3 169 (by decide +kernel) rfl
theorem mo_X1_leadsDown : MO mX1_leadsDown := ⟨by decide +kernel, rfl, lwg_3 94 rfl rfl, lwg_1 5 (by decide +kernel) rfl, by decide +kernel, by decide +kernel⟩
theorem np_X1_leadsDown : npar mX1_leadsDown 2 := (by decide +kernel : (parseMethodDescriptor yX1_leadsDown.desc).map (fun q => q.parameters.length) = some 2)
theorem im_X1_leadsDown : Cond.instanceMethod yX1_leadsDown ∈ lwg := lwg_3 93 (by decide +kernel) rfl
theorem se_X1_leadsDown : Cond.selects RX1 yX1_leadsDown yX1_leadsDown ∈ lwg := lwg_0 11 (by decide +kernel) rfl
theorem mo_X1_nextDown : MO mX1_nextDown := ⟨by decide +kernel, rfl, lwg_3 90 rfl rfl, lwg_1 5 (by decide +kernel) rfl, by decide +kernel, by decide +kernel⟩
theorem np_X1_nextDown : npar mX1_nextDown 1 := (by decide +kernel : (parseMethodDescriptor yX1_nextDown.desc).map (fun q => q.parameters.length) = some 1)
theorem im_X1_nextDown : Cond.instanceMethod yX1_nextDown ∈ lwg := lwg_3 89 (by decide +kernel) rfl
theorem se_X1_nextDown : Cond.selects RX1 yX1_nextDown yX1_nextDown ∈ lwg := lwg_0 10 (by decide +kernel) rfl
theorem mo_X1_node : MO mX1_node := ⟨by decide +kernel, rfl, lwg_3 49 rfl rfl, lwg_1 5 (by decide +kernel) rfl, by decide +kernel, by decide +kernel⟩
theorem np_X1_node : npar mX1_node 2 := (by decide +kernel : (parseMethodDescriptor yX1_node.desc).map (fun q => q.parameters.length) = some 2)
theorem im_X1_node : Cond.instanceMethod yX1_node ∈ lwg := lwg_3 48 (by decide +kernel) rfl
theorem se_X1_node : Cond.selects RX1 yX1_node yX1_node ∈ lwg := lwg_0 4 (by decide +kernel) rfl
theorem mo_X1_open : MO mX1_open := ⟨by decide +kernel, rfl, lwg_3 32 rfl rfl, lwg_1 5 (by decide +kernel) rfl, by decide +kernel, by decide +kernel⟩
theorem np_X1_open : npar mX1_open 2 := (by decide +kernel : (parseMethodDescriptor yX1_open.desc).map (fun q => q.parameters.length) = some 2)
theorem im_X1_open : Cond.instanceMethod yX1_open ∈ lwg := lwg_3 30 (by decide +kernel) rfl
theorem se_X1_open : Cond.selects RX1 yX1_open yX1_open ∈ lwg := lwg_3 31 (by decide +kernel) rfl
theorem mo_X1_peak : MO mX1_peak := ⟨by decide +kernel, rfl, lwg_3 162 rfl rfl, lwg_1 5 (by decide +kernel) rfl, by decide +kernel, by decide +kernel⟩
theorem np_X1_peak : npar mX1_peak 1 := (by decide +kernel : (parseMethodDescriptor yX1_peak.desc).map (fun q => q.parameters.length) = some 1)
theorem im_X1_peak : Cond.instanceMethod yX1_peak ∈ lwg := lwg_3 160 (by decide +kernel) rfl
theorem se_X1_peak : Cond.selects RX1 yX1_peak yX1_peak ∈ lwg := lwg_3 161 (by decide +kernel) rfl
theorem mo_X1_push : MO mX1_push := ⟨by decide +kernel, rfl, lwg_3 85 rfl rfl, lwg_1 5 (by decide +kernel) rfl, by decide +kernel, by decide +kernel⟩
theorem np_X1_push : npar mX1_push 1 := (by decide +kernel : (parseMethodDescriptor yX1_push.desc).map (fun q => q.parameters.length) = some 1)
theorem im_X1_push : Cond.instanceMethod yX1_push ∈ lwg := lwg_3 84 (by decide +kernel) rfl
theorem se_X1_push : Cond.selects RX1 yX1_push yX1_push ∈ lwg := lwg_0 9 (by decide +kernel) rfl
theorem mo_X1_putArc : MO mX1_putArc := ⟨by decide +kernel, rfl, lwg_3 57 rfl rfl, lwg_1 5 (by decide +kernel) rfl, by decide +kernel, by decide +kernel⟩
theorem np_X1_putArc : npar mX1_putArc 3 := (by decide +kernel : (parseMethodDescriptor yX1_putArc.desc).map (fun q => q.parameters.length) = some 3)
theorem im_X1_putArc : Cond.instanceMethod yX1_putArc ∈ lwg := lwg_3 56 (by decide +kernel) rfl
theorem se_X1_putArc : Cond.selects RX1 yX1_putArc yX1_putArc ∈ lwg := lwg_0 6 (by decide +kernel) rfl
theorem mo_X1_searchNear : MO mX1_searchNear := ⟨by decide +kernel, rfl, lwg_3 121 rfl rfl, lwg_1 5 (by decide +kernel) rfl, by decide +kernel, by decide +kernel⟩
theorem np_X1_searchNear : npar mX1_searchNear 0 := (by decide +kernel : (parseMethodDescriptor yX1_searchNear.desc).map (fun q => q.parameters.length) = some 0)
theorem im_X1_searchNear : Cond.instanceMethod yX1_searchNear ∈ lwg := lwg_3 119 (by decide +kernel) rfl
theorem se_X1_searchNear : Cond.selects RX1 yX1_searchNear yX1_searchNear ∈ lwg := lwg_3 120 (by decide +kernel) rfl
theorem mo_X1_stationsNear : MO mX1_stationsNear := ⟨by decide +kernel, rfl, lwg_3 178 rfl rfl, lwg_1 5 (by decide +kernel) rfl, by decide +kernel, by decide +kernel⟩
theorem np_X1_stationsNear : npar mX1_stationsNear 0 := (by decide +kernel : (parseMethodDescriptor yX1_stationsNear.desc).map (fun q => q.parameters.length) = some 0)
theorem im_X1_stationsNear : Cond.instanceMethod yX1_stationsNear ∈ lwg := lwg_3 176 (by decide +kernel) rfl
theorem se_X1_stationsNear : Cond.selects RX1 yX1_stationsNear yX1_stationsNear ∈ lwg := lwg_3 177 (by decide +kernel) rfl
theorem mo_X1_ticksNear : MO mX1_ticksNear := ⟨by decide +kernel, rfl, lwg_3 125 rfl rfl, lwg_1 5 (by decide +kernel) rfl, by decide +kernel, by decide +kernel⟩
theorem np_X1_ticksNear : npar mX1_ticksNear 1 := (by decide +kernel : (parseMethodDescriptor yX1_ticksNear.desc).map (fun q => q.parameters.length) = some 1)
theorem im_X1_ticksNear : Cond.instanceMethod yX1_ticksNear ∈ lwg := lwg_3 123 (by decide +kernel) rfl
theorem se_X1_ticksNear : Cond.selects RX1 yX1_ticksNear yX1_ticksNear ∈ lwg := lwg_3 124 (by decide +kernel) rfl
theorem mo_X2_entry : MO mX2_entry := ⟨by decide +kernel, rfl, lwg_3 138 rfl rfl, lwg_1 8 (by decide +kernel) rfl, by decide +kernel, by decide +kernel⟩
theorem np_X2_entry : npar mX2_entry 2 := (by decide +kernel : (parseMethodDescriptor yX2_entry.desc).map (fun q => q.parameters.length) = some 2)
theorem im_X2_entry : Cond.instanceMethod yX2_entry ∈ lwg := lwg_3 136 (by decide +kernel) rfl
theorem se_X2_entry : Cond.selects RX2 yX2_entry yX2_entry ∈ lwg := lwg_3 137 (by decide +kernel) rfl
theorem mo_X2_hasBits : MO mX2_hasBits := ⟨by decide +kernel, rfl, lwg_4 195 rfl rfl, lwg_1 8 (by decide +kernel) rfl, by decide +kernel, by decide +kernel⟩
theorem np_X2_hasBits : npar mX2_hasBits 1 := (by decide +kernel : (parseMethodDescriptor yX2_hasBits.desc).map (fun q => q.parameters.length) = some 1)
theorem sc_X2_hasBits : Cond.static yX2_hasBits ∈ lwg := lwg_4 194 (by decide +kernel) rfl
theorem mo_X2_hasPart : MO mX2_hasPart := ⟨by decide +kernel, rfl, lwg_4 219 rfl rfl, lwg_1 8 (by decide +kernel) rfl, by decide +kernel, by decide +kernel⟩
theorem np_X2_hasPart : npar mX2_hasPart 2 := (by decide +kernel : (parseMethodDescriptor yX2_hasPart.desc).map (fun q => q.parameters.length) = some 2)
theorem im_X2_hasPart : Cond.instanceMethod yX2_hasPart ∈ lwg := lwg_4 217 (by decide +kernel) rfl
theorem se_X2_hasPart : Cond.selects RX2 yX2_hasPart yX2_hasPart ∈ lwg := lwg_4 218 (by decide +kernel) rfl
theorem mo_X2_put : MO mX2_put := ⟨by decide +kernel, rfl, lwg_4 211 rfl rfl, lwg_1 8 (by decide +kernel) rfl, by decide +kernel, by decide +kernel⟩
theorem np_X2_put : npar mX2_put 2 := (by decide +kernel : (parseMethodDescriptor yX2_put.desc).map (fun q => q.parameters.length) = some 2)
theorem im_X2_put : Cond.instanceMethod yX2_put ∈ lwg := lwg_4 209 (by decide +kernel) rfl
theorem se_X2_put : Cond.selects RX2 yX2_put yX2_put ∈ lwg := lwg_4 210 (by decide +kernel) rfl
theorem mo_X2_renew : MO mX2_renew := ⟨by decide +kernel, rfl, lwg_4 199 rfl rfl, lwg_1 8 (by decide +kernel) rfl, by decide +kernel, by decide +kernel⟩
theorem np_X2_renew : npar mX2_renew 2 := (by decide +kernel : (parseMethodDescriptor yX2_renew.desc).map (fun q => q.parameters.length) = some 2)
theorem im_X2_renew : Cond.instanceMethod yX2_renew ∈ lwg := lwg_4 197 (by decide +kernel) rfl
theorem se_X2_renew : Cond.selects RX2 yX2_renew yX2_renew ∈ lwg := lwg_4 198 (by decide +kernel) rfl
theorem mo_X3_become : MO mX3_become := ⟨by decide +kernel, rfl, lwg_3 191 rfl rfl, lwg_1 3 (by decide +kernel) rfl, by decide +kernel, by decide +kernel⟩
theorem np_X3_become : npar mX3_become 1 := (by decide +kernel : (parseMethodDescriptor yX3_become.desc).map (fun q => q.parameters.length) = some 1)
theorem im_X3_become : Cond.instanceMethod yX3_become ∈ lwg := lwg_3 189 (by decide +kernel) rfl
theorem se_X3_become : Cond.selects RX3 yX3_become yX3_become ∈ lwg := lwg_3 190 (by decide +kernel) rfl
theorem mo_X3_greatest : MO mX3_greatest := ⟨by decide +kernel, rfl, lwg_2 171 rfl rfl, lwg_1 3 (by decide +kernel) rfl, by decide +kernel, by decide +kernel⟩
theorem np_X3_greatest : npar mX3_greatest 1 := (by decide +kernel : (parseMethodDescriptor yX3_greatest.desc).map (fun q => q.parameters.length) = some 1)
theorem sc_X3_greatest : Cond.static yX3_greatest ∈ lwg := lwg_2 170 (by decide +kernel) rfl
theorem mo_X3_holds : MO mX3_holds := ⟨by decide +kernel, rfl, lwg_2 131 rfl rfl, lwg_1 3 (by decide +kernel) rfl, by decide +kernel, by decide +kernel⟩
theorem np_X3_holds : npar mX3_holds 1 := (by decide +kernel : (parseMethodDescriptor yX3_holds.desc).map (fun q => q.parameters.length) = some 1)
theorem im_X3_holds : Cond.instanceMethod yX3_holds ∈ lwg := lwg_2 129 (by decide +kernel) rfl
theorem se_X3_holds : Cond.selects RX3 yX3_holds yX3_holds ∈ lwg := lwg_2 130 (by decide +kernel) rfl
theorem mo_X3_replace : MO mX3_replace := ⟨by decide +kernel, rfl, lwg_2 175 rfl rfl, lwg_1 3 (by decide +kernel) rfl, by decide +kernel, by decide +kernel⟩
theorem np_X3_replace : npar mX3_replace 2 := (by decide +kernel : (parseMethodDescriptor yX3_replace.desc).map (fun q => q.parameters.length) = some 2)
theorem im_X3_replace : Cond.instanceMethod yX3_replace ∈ lwg := lwg_2 173 (by decide +kernel) rfl
theorem se_X3_replace : Cond.selects RX3 yX3_replace yX3_replace ∈ lwg := lwg_2 174 (by decide +kernel) rfl
theorem mo_X4_behind : MO mX4_behind := ⟨by decide +kernel, rfl, lwg_4 24 rfl rfl, lwg_1 6 (by decide +kernel) rfl, by decide +kernel, by decide +kernel⟩
theorem np_X4_behind : npar mX4_behind 1 := (by decide +kernel : (parseMethodDescriptor yX4_behind.desc).map (fun q => q.parameters.length) = some 1)
theorem im_X4_behind : Cond.instanceMethod yX4_behind ∈ lwg := lwg_4 22 (by decide +kernel) rfl
theorem se_X4_behind : Cond.selects RX4 yX4_behind yX4_behind ∈ lwg := lwg_4 23 (by decide +kernel) rfl
theorem mo_X4_findQuickest : MO mX4_findQuickest := ⟨by decide +kernel, rfl, lwg_3 232 rfl rfl, lwg_1 6 (by decide +kernel) rfl, by decide +kernel, by decide +kernel⟩
theorem np_X4_findQuickest : npar mX4_findQuickest 2 := (by decide +kernel : (parseMethodDescriptor yX4_findQuickest.desc).map (fun q => q.parameters.length) = some 2)
theorem im_X4_findQuickest : Cond.instanceMethod yX4_findQuickest ∈ lwg := lwg_3 231 (by decide +kernel) rfl
theorem se_X4_findQuickest : Cond.selects RX4 yX4_findQuickest yX4_findQuickest ∈ lwg := lwg_0 16 (by decide +kernel) rfl
theorem mo_X4_head : MO mX4_head := ⟨by decide +kernel, rfl, lwg_4 9 rfl rfl, lwg_1 6 (by decide +kernel) rfl, by decide +kernel, by decide +kernel⟩
theorem np_X4_head : npar mX4_head 1 := (by decide +kernel : (parseMethodDescriptor yX4_head.desc).map (fun q => q.parameters.length) = some 1)
theorem im_X4_head : Cond.instanceMethod yX4_head ∈ lwg := lwg_4 8 (by decide +kernel) rfl
theorem se_X4_head : Cond.selects RX4 yX4_head yX4_head ∈ lwg := lwg_0 20 (by decide +kernel) rfl
theorem mo_X4_improve : MO mX4_improve := ⟨by decide +kernel, rfl, lwg_3 236 rfl rfl, lwg_1 6 (by decide +kernel) rfl, by decide +kernel, by decide +kernel⟩
theorem np_X4_improve : npar mX4_improve 1 := (by decide +kernel : (parseMethodDescriptor yX4_improve.desc).map (fun q => q.parameters.length) = some 1)
theorem im_X4_improve : Cond.instanceMethod yX4_improve ∈ lwg := lwg_3 235 (by decide +kernel) rfl
theorem se_X4_improve : Cond.selects RX4 yX4_improve yX4_improve ∈ lwg := lwg_0 17 (by decide +kernel) rfl
theorem mo_X4_narrowest : MO mX4_narrowest := ⟨by decide +kernel, rfl, lwg_4 13 rfl rfl, lwg_1 6 (by decide +kernel) rfl, by decide +kernel, by decide +kernel⟩
theorem np_X4_narrowest : npar mX4_narrowest 2 := (by decide +kernel : (parseMethodDescriptor yX4_narrowest.desc).map (fun q => q.parameters.length) = some 2)
theorem im_X4_narrowest : Cond.instanceMethod yX4_narrowest ∈ lwg := lwg_4 12 (by decide +kernel) rfl
theorem se_X4_narrowest : Cond.selects RX4 yX4_narrowest yX4_narrowest ∈ lwg := lwg_0 21 (by decide +kernel) rfl
theorem mo_X4_push : MO mX4_push := ⟨by decide +kernel, rfl, lwg_4 19 rfl rfl, lwg_1 6 (by decide +kernel) rfl, by decide +kernel, by decide +kernel⟩
theorem np_X4_push : npar mX4_push 3 := (by decide +kernel : (parseMethodDescriptor yX4_push.desc).map (fun q => q.parameters.length) = some 3)
theorem im_X4_push : Cond.instanceMethod yX4_push ∈ lwg := lwg_4 18 (by decide +kernel) rfl
theorem se_X4_push : Cond.selects RX4 yX4_push yX4_push ∈ lwg := lwg_0 22 (by decide +kernel) rfl
theorem mo_X4_room : MO mX4_room := ⟨by decide +kernel, rfl, lwg_4 4 rfl rfl, lwg_1 6 (by decide +kernel) rfl, by decide +kernel, by decide +kernel⟩
theorem np_X4_room : npar mX4_room 1 := (by decide +kernel : (parseMethodDescriptor yX4_room.desc).map (fun q => q.parameters.length) = some 1)
theorem im_X4_room : Cond.instanceMethod yX4_room ∈ lwg := lwg_4 3 (by decide +kernel) rfl
theorem se_X4_room : Cond.selects RX4 yX4_room yX4_room ∈ lwg := lwg_0 19 (by decide +kernel) rfl
theorem mo_X4_solve : MO mX4_solve := ⟨by decide +kernel, rfl, lwg_3 225 rfl rfl, lwg_1 6 (by decide +kernel) rfl, by decide +kernel, by decide +kernel⟩
theorem np_X4_solve : npar mX4_solve 3 := (by decide +kernel : (parseMethodDescriptor yX4_solve.desc).map (fun q => q.parameters.length) = some 3)
theorem im_X4_solve : Cond.instanceMethod yX4_solve ∈ lwg := lwg_3 223 (by decide +kernel) rfl
theorem se_X4_solve : Cond.selects RX4 yX4_solve yX4_solve ∈ lwg := lwg_3 224 (by decide +kernel) rfl
theorem mo_X4_tail : MO mX4_tail := ⟨by decide +kernel, rfl, lwg_4 0 rfl rfl, lwg_1 6 (by decide +kernel) rfl, by decide +kernel, by decide +kernel⟩
theorem np_X4_tail : npar mX4_tail 1 := (by decide +kernel : (parseMethodDescriptor yX4_tail.desc).map (fun q => q.parameters.length) = some 1)
theorem im_X4_tail : Cond.instanceMethod yX4_tail ∈ lwg := lwg_3 239 (by decide +kernel) rfl
theorem se_X4_tail : Cond.selects RX4 yX4_tail yX4_tail ∈ lwg := lwg_0 18 (by decide +kernel) rfl
theorem mo_X4_ticksUntil : MO mX4_ticksUntil := ⟨by decide +kernel, rfl, lwg_4 42 rfl rfl, lwg_1 6 (by decide +kernel) rfl, by decide +kernel, by decide +kernel⟩
theorem np_X4_ticksUntil : npar mX4_ticksUntil 1 := (by decide +kernel : (parseMethodDescriptor yX4_ticksUntil.desc).map (fun q => q.parameters.length) = some 1)
theorem im_X4_ticksUntil : Cond.instanceMethod yX4_ticksUntil ∈ lwg := lwg_4 40 (by decide +kernel) rfl
theorem se_X4_ticksUntil : Cond.selects RX4 yX4_ticksUntil yX4_ticksUntil ∈ lwg := lwg_4 41 (by decide +kernel) rfl
theorem mo_X5_add : MO mX5_add := ⟨by decide +kernel, rfl, lwg_4 53 rfl rfl, lwg_1 7 (by decide +kernel) rfl, by decide +kernel, by decide +kernel⟩
theorem np_X5_add : npar mX5_add 1 := (by decide +kernel : (parseMethodDescriptor yX5_add.desc).map (fun q => q.parameters.length) = some 1)
theorem im_X5_add : Cond.instanceMethod yX5_add ∈ lwg := lwg_4 51 (by decide +kernel) rfl
theorem se_X5_add : Cond.selects RX5 yX5_add yX5_add ∈ lwg := lwg_4 52 (by decide +kernel) rfl
theorem mo_X5_fail : MO mX5_fail := ⟨by decide +kernel, rfl, lwg_4 172 rfl rfl, lwg_1 7 (by decide +kernel) rfl, by decide +kernel, by decide +kernel⟩
theorem np_X5_fail : npar mX5_fail 0 := (by decide +kernel : (parseMethodDescriptor yX5_fail.desc).map (fun q => q.parameters.length) = some 0)
theorem im_X5_fail : Cond.instanceMethod yX5_fail ∈ lwg := lwg_4 171 (by decide +kernel) rfl
theorem se_X5_fail : Cond.selects RX5 yX5_fail yX5_fail ∈ lwg := lwg_0 32 (by decide +kernel) rfl
theorem mo_X5_isWord : MO mX5_isWord := ⟨by decide +kernel, rfl, lwg_4 89 rfl rfl, lwg_1 7 (by decide +kernel) rfl, by decide +kernel, by decide +kernel⟩
theorem np_X5_isWord : npar mX5_isWord 1 := (by decide +kernel : (parseMethodDescriptor yX5_isWord.desc).map (fun q => q.parameters.length) = some 1)
theorem im_X5_isWord : Cond.instanceMethod yX5_isWord ∈ lwg := lwg_4 88 (by decide +kernel) rfl
theorem se_X5_isWord : Cond.selects RX5 yX5_isWord yX5_isWord ∈ lwg := lwg_0 26 (by decide +kernel) rfl
theorem mo_X5_lineKind : MO mX5_lineKind := ⟨by decide +kernel, rfl, lwg_4 144 rfl rfl, lwg_1 7 (by decide +kernel) rfl, by decide +kernel, by decide +kernel⟩
theorem np_X5_lineKind : npar mX5_lineKind 0 := (by decide +kernel : (parseMethodDescriptor yX5_lineKind.desc).map (fun q => q.parameters.length) = some 0)
theorem im_X5_lineKind : Cond.instanceMethod yX5_lineKind ∈ lwg := lwg_4 143 (by decide +kernel) rfl
theorem se_X5_lineKind : Cond.selects RX5 yX5_lineKind yX5_lineKind ∈ lwg := lwg_0 27 (by decide +kernel) rfl
theorem mo_X5_readItem : MO mX5_readItem := ⟨by decide +kernel, rfl, lwg_4 80 rfl rfl, lwg_1 7 (by decide +kernel) rfl, by decide +kernel, by decide +kernel⟩
theorem np_X5_readItem : npar mX5_readItem 1 := (by decide +kernel : (parseMethodDescriptor yX5_readItem.desc).map (fun q => q.parameters.length) = some 1)
theorem im_X5_readItem : Cond.instanceMethod yX5_readItem ∈ lwg := lwg_4 78 (by decide +kernel) rfl
theorem se_X5_readItem : Cond.selects RX5 yX5_readItem yX5_readItem ∈ lwg := lwg_4 79 (by decide +kernel) rfl
theorem mo_X5_readLine : MO mX5_readLine := ⟨by decide +kernel, rfl, lwg_4 178 rfl rfl, lwg_1 7 (by decide +kernel) rfl, by decide +kernel, by decide +kernel⟩
theorem np_X5_readLine : npar mX5_readLine 2 := (by decide +kernel : (parseMethodDescriptor yX5_readLine.desc).map (fun q => q.parameters.length) = some 2)
theorem im_X5_readLine : Cond.instanceMethod yX5_readLine ∈ lwg := lwg_4 177 (by decide +kernel) rfl
theorem se_X5_readLine : Cond.selects RX5 yX5_readLine yX5_readLine ∈ lwg := lwg_0 33 (by decide +kernel) rfl
theorem mo_X5_readStation : MO mX5_readStation := ⟨by decide +kernel, rfl, lwg_4 154 rfl rfl, lwg_1 7 (by decide +kernel) rfl, by decide +kernel, by decide +kernel⟩
theorem np_X5_readStation : npar mX5_readStation 2 := (by decide +kernel : (parseMethodDescriptor yX5_readStation.desc).map (fun q => q.parameters.length) = some 2)
theorem im_X5_readStation : Cond.instanceMethod yX5_readStation ∈ lwg := lwg_4 153 (by decide +kernel) rfl
theorem se_X5_readStation : Cond.selects RX5 yX5_readStation yX5_readStation ∈ lwg := lwg_0 28 (by decide +kernel) rfl
theorem mo_X5_readToken : MO mX5_readToken := ⟨by decide +kernel, rfl, lwg_4 69 rfl rfl, lwg_1 7 (by decide +kernel) rfl, by decide +kernel, by decide +kernel⟩
theorem np_X5_readToken : npar mX5_readToken 0 := (by decide +kernel : (parseMethodDescriptor yX5_readToken.desc).map (fun q => q.parameters.length) = some 0)
theorem im_X5_readToken : Cond.instanceMethod yX5_readToken ∈ lwg := lwg_4 68 (by decide +kernel) rfl
theorem se_X5_readToken : Cond.selects RX5 yX5_readToken yX5_readToken ∈ lwg := lwg_0 23 (by decide +kernel) rfl
theorem mo_X5_sortOf : MO mX5_sortOf := ⟨by decide +kernel, rfl, lwg_4 72 rfl rfl, lwg_1 7 (by decide +kernel) rfl, by decide +kernel, by decide +kernel⟩
theorem np_X5_sortOf : npar mX5_sortOf 1 := (by decide +kernel : (parseMethodDescriptor yX5_sortOf.desc).map (fun q => q.parameters.length) = some 1)
theorem sc_X5_sortOf : Cond.static yX5_sortOf ∈ lwg := lwg_4 71 (by decide +kernel) rfl
theorem mo_X5_start : MO mX5_start := ⟨by decide +kernel, rfl, lwg_4 65 rfl rfl, lwg_1 7 (by decide +kernel) rfl, by decide +kernel, by decide +kernel⟩
theorem np_X5_start : npar mX5_start 0 := (by decide +kernel : (parseMethodDescriptor yX5_start.desc).map (fun q => q.parameters.length) = some 0)
theorem im_X5_start : Cond.instanceMethod yX5_start ∈ lwg := lwg_4 63 (by decide +kernel) rfl
theorem se_X5_start : Cond.selects RX5 yX5_start yX5_start ∈ lwg := lwg_4 64 (by decide +kernel) rfl
theorem mo_X5_stationKind : MO mX5_stationKind := ⟨by decide +kernel, rfl, lwg_4 84 rfl rfl, lwg_1 7 (by decide +kernel) rfl, by decide +kernel, by decide +kernel⟩
theorem np_X5_stationKind : npar mX5_stationKind 0 := (by decide +kernel : (parseMethodDescriptor yX5_stationKind.desc).map (fun q => q.parameters.length) = some 0)
theorem im_X5_stationKind : Cond.instanceMethod yX5_stationKind ∈ lwg := lwg_4 83 (by decide +kernel) rfl
theorem se_X5_stationKind : Cond.selects RX5 yX5_stationKind yX5_stationKind ∈ lwg := lwg_0 25 (by decide +kernel) rfl
theorem mo_X5_takeNumber : MO mX5_takeNumber := ⟨by decide +kernel, rfl, lwg_4 167 rfl rfl, lwg_1 7 (by decide +kernel) rfl, by decide +kernel, by decide +kernel⟩
theorem np_X5_takeNumber : npar mX5_takeNumber 2 := (by decide +kernel : (parseMethodDescriptor yX5_takeNumber.desc).map (fun q => q.parameters.length) = some 2)
theorem im_X5_takeNumber : Cond.instanceMethod yX5_takeNumber ∈ lwg := lwg_4 166 (by decide +kernel) rfl
theorem se_X5_takeNumber : Cond.selects RX5 yX5_takeNumber yX5_takeNumber ∈ lwg := lwg_0 31 (by decide +kernel) rfl
theorem mo_X5_takeOption : MO mX5_takeOption := ⟨by decide +kernel, rfl, lwg_4 159 rfl rfl, lwg_1 7 (by decide +kernel) rfl, by decide +kernel, by decide +kernel⟩
theorem np_X5_takeOption : npar mX5_takeOption 4 := (by decide +kernel : (parseMethodDescriptor yX5_takeOption.desc).map (fun q => q.parameters.length) = some 4)
theorem im_X5_takeOption : Cond.instanceMethod yX5_takeOption ∈ lwg := lwg_4 158 (by decide +kernel) rfl
theorem se_X5_takeOption : Cond.selects RX5 yX5_takeOption yX5_takeOption ∈ lwg := lwg_0 29 (by decide +kernel) rfl
theorem mo_X5_takeSign : MO mX5_takeSign := ⟨by decide +kernel, rfl, lwg_4 187 rfl rfl, lwg_1 7 (by decide +kernel) rfl, by decide +kernel, by decide +kernel⟩
theorem np_X5_takeSign : npar mX5_takeSign 0 := (by decide +kernel : (parseMethodDescriptor yX5_takeSign.desc).map (fun q => q.parameters.length) = some 0)
theorem im_X5_takeSign : Cond.instanceMethod yX5_takeSign ∈ lwg := lwg_4 185 (by decide +kernel) rfl
theorem se_X5_takeSign : Cond.selects RX5 yX5_takeSign yX5_takeSign ∈ lwg := lwg_4 186 (by decide +kernel) rfl
theorem mo_X5_takeWord : MO mX5_takeWord := ⟨by decide +kernel, rfl, lwg_4 163 rfl rfl, lwg_1 7 (by decide +kernel) rfl, by decide +kernel, by decide +kernel⟩
theorem np_X5_takeWord : npar mX5_takeWord 1 := (by decide +kernel : (parseMethodDescriptor yX5_takeWord.desc).map (fun q => q.parameters.length) = some 1)
theorem im_X5_takeWord : Cond.instanceMethod yX5_takeWord ∈ lwg := lwg_4 162 (by decide +kernel) rfl
theorem se_X5_takeWord : Cond.selects RX5 yX5_takeWord yX5_takeWord ∈ lwg := lwg_0 30 (by decide +kernel) rfl
theorem mo_X5_valueOfToken : MO mX5_valueOfToken := ⟨by decide +kernel, rfl, lwg_4 76 rfl rfl, lwg_1 7 (by decide +kernel) rfl, by decide +kernel, by decide +kernel⟩
theorem np_X5_valueOfToken : npar mX5_valueOfToken 0 := (by decide +kernel : (parseMethodDescriptor yX5_valueOfToken.desc).map (fun q => q.parameters.length) = some 0)
theorem im_X5_valueOfToken : Cond.instanceMethod yX5_valueOfToken ∈ lwg := lwg_4 75 (by decide +kernel) rfl
theorem se_X5_valueOfToken : Cond.selects RX5 yX5_valueOfToken yX5_valueOfToken ∈ lwg := lwg_0 24 (by decide +kernel) rfl
theorem mo_X6_addLine : MO mX6_addLine := ⟨by decide +kernel, rfl, lwg_2 118 rfl rfl, lwg_1 2 (by decide +kernel) rfl, by decide +kernel, by decide +kernel⟩
theorem np_X6_addLine : npar mX6_addLine 3 := (by decide +kernel : (parseMethodDescriptor yX6_addLine.desc).map (fun q => q.parameters.length) = some 3)
theorem im_X6_addLine : Cond.instanceMethod yX6_addLine ∈ lwg := lwg_2 116 (by decide +kernel) rfl
theorem se_X6_addLine : Cond.selects RX6 yX6_addLine yX6_addLine ∈ lwg := lwg_2 117 (by decide +kernel) rfl
theorem mo_X6_addStation : MO mX6_addStation := ⟨by decide +kernel, rfl, lwg_2 101 rfl rfl, lwg_1 2 (by decide +kernel) rfl, by decide +kernel, by decide +kernel⟩
theorem np_X6_addStation : npar mX6_addStation 2 := (by decide +kernel : (parseMethodDescriptor yX6_addStation.desc).map (fun q => q.parameters.length) = some 2)
theorem im_X6_addStation : Cond.instanceMethod yX6_addStation ∈ lwg := lwg_2 99 (by decide +kernel) rfl
theorem se_X6_addStation : Cond.selects RX6 yX6_addStation yX6_addStation ∈ lwg := lwg_2 100 (by decide +kernel) rfl
theorem mo_X6_allGoods : MO mX6_allGoods := ⟨by decide +kernel, rfl, lwg_3 111 rfl rfl, lwg_1 2 (by decide +kernel) rfl, by decide +kernel, by decide +kernel⟩
theorem np_X6_allGoods : npar mX6_allGoods 0 := (by decide +kernel : (parseMethodDescriptor yX6_allGoods.desc).map (fun q => q.parameters.length) = some 0)
theorem im_X6_allGoods : Cond.instanceMethod yX6_allGoods ∈ lwg := lwg_3 109 (by decide +kernel) rfl
theorem se_X6_allGoods : Cond.selects RX6 yX6_allGoods yX6_allGoods ∈ lwg := lwg_3 110 (by decide +kernel) rfl
theorem mo_X6_allRoom : MO mX6_allRoom := ⟨by decide +kernel, rfl, lwg_3 8 rfl rfl, lwg_1 2 (by decide +kernel) rfl, by decide +kernel, by decide +kernel⟩
theorem np_X6_allRoom : npar mX6_allRoom 0 := (by decide +kernel : (parseMethodDescriptor yX6_allRoom.desc).map (fun q => q.parameters.length) = some 0)
theorem im_X6_allRoom : Cond.instanceMethod yX6_allRoom ∈ lwg := lwg_3 6 (by decide +kernel) rfl
theorem se_X6_allRoom : Cond.selects RX6 yX6_allRoom yX6_allRoom ∈ lwg := lwg_3 7 (by decide +kernel) rfl
theorem mo_X6_allSent : MO mX6_allSent := ⟨by decide +kernel, rfl, lwg_3 4 rfl rfl, lwg_1 2 (by decide +kernel) rfl, by decide +kernel, by decide +kernel⟩
theorem np_X6_allSent : npar mX6_allSent 0 := (by decide +kernel : (parseMethodDescriptor yX6_allSent.desc).map (fun q => q.parameters.length) = some 0)
theorem im_X6_allSent : Cond.instanceMethod yX6_allSent ∈ lwg := lwg_3 2 (by decide +kernel) rfl
theorem se_X6_allSent : Cond.selects RX6 yX6_allSent yX6_allSent ∈ lwg := lwg_3 3 (by decide +kernel) rfl
theorem mo_X6_allStock : MO mX6_allStock := ⟨by decide +kernel, rfl, lwg_2 236 rfl rfl, lwg_1 2 (by decide +kernel) rfl, by decide +kernel, by decide +kernel⟩
theorem np_X6_allStock : npar mX6_allStock 0 := (by decide +kernel : (parseMethodDescriptor yX6_allStock.desc).map (fun q => q.parameters.length) = some 0)
theorem im_X6_allStock : Cond.instanceMethod yX6_allStock ∈ lwg := lwg_2 234 (by decide +kernel) rfl
theorem se_X6_allStock : Cond.selects RX6 yX6_allStock yX6_allStock ∈ lwg := lwg_2 235 (by decide +kernel) rfl
theorem mo_X6_allUnderWay : MO mX6_allUnderWay := ⟨by decide +kernel, rfl, lwg_3 0 rfl rfl, lwg_1 2 (by decide +kernel) rfl, by decide +kernel, by decide +kernel⟩
theorem np_X6_allUnderWay : npar mX6_allUnderWay 0 := (by decide +kernel : (parseMethodDescriptor yX6_allUnderWay.desc).map (fun q => q.parameters.length) = some 0)
theorem im_X6_allUnderWay : Cond.instanceMethod yX6_allUnderWay ∈ lwg := lwg_2 238 (by decide +kernel) rfl
theorem se_X6_allUnderWay : Cond.selects RX6 yX6_allUnderWay yX6_allUnderWay ∈ lwg := lwg_2 239 (by decide +kernel) rfl
theorem mo_X6_areTwo : MO mX6_areTwo := ⟨by decide +kernel, rfl, lwg_2 109 rfl rfl, lwg_1 2 (by decide +kernel) rfl, by decide +kernel, by decide +kernel⟩
theorem np_X6_areTwo : npar mX6_areTwo 2 := (by decide +kernel : (parseMethodDescriptor yX6_areTwo.desc).map (fun q => q.parameters.length) = some 2)
theorem im_X6_areTwo : Cond.instanceMethod yX6_areTwo ∈ lwg := lwg_2 107 (by decide +kernel) rfl
theorem se_X6_areTwo : Cond.selects RX6 yX6_areTwo yX6_areTwo ∈ lwg := lwg_2 108 (by decide +kernel) rfl
theorem mo_X6_become : MO mX6_become := ⟨by decide +kernel, rfl, lwg_3 187 rfl rfl, lwg_1 2 (by decide +kernel) rfl, by decide +kernel, by decide +kernel⟩
theorem np_X6_become : npar mX6_become 1 := (by decide +kernel : (parseMethodDescriptor yX6_become.desc).map (fun q => q.parameters.length) = some 1)
theorem im_X6_become : Cond.instanceMethod yX6_become ∈ lwg := lwg_3 185 (by decide +kernel) rfl
theorem se_X6_become : Cond.selects RX6 yX6_become yX6_become ∈ lwg := lwg_3 186 (by decide +kernel) rfl
theorem mo_X6_comingTo : MO mX6_comingTo := ⟨by decide +kernel, rfl, lwg_2 136 rfl rfl, lwg_1 2 (by decide +kernel) rfl, by decide +kernel, by decide +kernel⟩
theorem np_X6_comingTo : npar mX6_comingTo 1 := (by decide +kernel : (parseMethodDescriptor yX6_comingTo.desc).map (fun q => q.parameters.length) = some 1)
theorem im_X6_comingTo : Cond.instanceMethod yX6_comingTo ∈ lwg := lwg_2 134 (by decide +kernel) rfl
theorem se_X6_comingTo : Cond.selects RX6 yX6_comingTo yX6_comingTo ∈ lwg := lwg_2 135 (by decide +kernel) rfl
theorem mo_X6_costOfLines : MO mX6_costOfLines := ⟨by decide +kernel, rfl, lwg_3 148 rfl rfl, lwg_1 2 (by decide +kernel) rfl, by decide +kernel, by decide +kernel⟩
theorem np_X6_costOfLines : npar mX6_costOfLines 2 := (by decide +kernel : (parseMethodDescriptor yX6_costOfLines.desc).map (fun q => q.parameters.length) = some 2)
theorem im_X6_costOfLines : Cond.instanceMethod yX6_costOfLines ∈ lwg := lwg_3 146 (by decide +kernel) rfl
theorem se_X6_costOfLines : Cond.selects RX6 yX6_costOfLines yX6_costOfLines ∈ lwg := lwg_3 147 (by decide +kernel) rfl
theorem mo_X6_costOutside : MO mX6_costOutside := ⟨by decide +kernel, rfl, lwg_3 142 rfl rfl, lwg_1 2 (by decide +kernel) rfl, by decide +kernel, by decide +kernel⟩
theorem np_X6_costOutside : npar mX6_costOutside 2 := (by decide +kernel : (parseMethodDescriptor yX6_costOutside.desc).map (fun q => q.parameters.length) = some 2)
theorem im_X6_costOutside : Cond.instanceMethod yX6_costOutside ∈ lwg := lwg_3 140 (by decide +kernel) rfl
theorem se_X6_costOutside : Cond.selects RX6 yX6_costOutside yX6_costOutside ∈ lwg := lwg_3 141 (by decide +kernel) rfl
theorem mo_X6_dispatch : MO mX6_dispatch := ⟨by decide +kernel, rfl, lwg_2 215 rfl rfl, lwg_1 2 (by decide +kernel) rfl, by decide +kernel, by decide +kernel⟩
theorem np_X6_dispatch : npar mX6_dispatch 2 := (by decide +kernel : (parseMethodDescriptor yX6_dispatch.desc).map (fun q => q.parameters.length) = some 2)
theorem im_X6_dispatch : Cond.instanceMethod yX6_dispatch ∈ lwg := lwg_2 213 (by decide +kernel) rfl
theorem se_X6_dispatch : Cond.selects RX6 yX6_dispatch yX6_dispatch ∈ lwg := lwg_2 214 (by decide +kernel) rfl
theorem mo_X6_follow : MO mX6_follow := ⟨by decide +kernel, rfl, lwg_5 6 rfl rfl, lwg_1 2 (by decide +kernel) rfl, by decide +kernel, by decide +kernel⟩
theorem np_X6_follow : npar mX6_follow 2 := (by decide +kernel : (parseMethodDescriptor yX6_follow.desc).map (fun q => q.parameters.length) = some 2)
theorem im_X6_follow : Cond.instanceMethod yX6_follow ∈ lwg := lwg_5 4 (by decide +kernel) rfl
theorem se_X6_follow : Cond.selects RX6 yX6_follow yX6_follow ∈ lwg := lwg_5 5 (by decide +kernel) rfl
theorem mo_X6_hasLine : MO mX6_hasLine := ⟨by decide +kernel, rfl, lwg_2 148 rfl rfl, lwg_1 2 (by decide +kernel) rfl, by decide +kernel, by decide +kernel⟩
theorem np_X6_hasLine : npar mX6_hasLine 1 := (by decide +kernel : (parseMethodDescriptor yX6_hasLine.desc).map (fun q => q.parameters.length) = some 1)
theorem im_X6_hasLine : Cond.instanceMethod yX6_hasLine ∈ lwg := lwg_2 146 (by decide +kernel) rfl
theorem se_X6_hasLine : Cond.selects RX6 yX6_hasLine yX6_hasLine ∈ lwg := lwg_2 147 (by decide +kernel) rfl
theorem mo_X6_hasStation : MO mX6_hasStation := ⟨by decide +kernel, rfl, lwg_2 113 rfl rfl, lwg_1 2 (by decide +kernel) rfl, by decide +kernel, by decide +kernel⟩
theorem np_X6_hasStation : npar mX6_hasStation 1 := (by decide +kernel : (parseMethodDescriptor yX6_hasStation.desc).map (fun q => q.parameters.length) = some 1)
theorem im_X6_hasStation : Cond.instanceMethod yX6_hasStation ∈ lwg := lwg_2 111 (by decide +kernel) rfl
theorem se_X6_hasStation : Cond.selects RX6 yX6_hasStation yX6_hasStation ∈ lwg := lwg_2 112 (by decide +kernel) rfl
theorem mo_X6_losingStations : MO mX6_losingStations := ⟨by decide +kernel, rfl, lwg_3 12 rfl rfl, lwg_1 2 (by decide +kernel) rfl, by decide +kernel, by decide +kernel⟩
theorem np_X6_losingStations : npar mX6_losingStations 0 := (by decide +kernel : (parseMethodDescriptor yX6_losingStations.desc).map (fun q => q.parameters.length) = some 0)
theorem im_X6_losingStations : Cond.instanceMethod yX6_losingStations ∈ lwg := lwg_3 10 (by decide +kernel) rfl
theorem se_X6_losingStations : Cond.selects RX6 yX6_losingStations yX6_losingStations ∈ lwg := lwg_3 11 (by decide +kernel) rfl
theorem mo_X6_openLines : MO mX6_openLines := ⟨by decide +kernel, rfl, lwg_3 16 rfl rfl, lwg_1 2 (by decide +kernel) rfl, by decide +kernel, by decide +kernel⟩
theorem np_X6_openLines : npar mX6_openLines 0 := (by decide +kernel : (parseMethodDescriptor yX6_openLines.desc).map (fun q => q.parameters.length) = some 0)
theorem im_X6_openLines : Cond.instanceMethod yX6_openLines ∈ lwg := lwg_3 14 (by decide +kernel) rfl
theorem se_X6_openLines : Cond.selects RX6 yX6_openLines yX6_openLines ∈ lwg := lwg_3 15 (by decide +kernel) rfl
theorem mo_X6_passTick : MO mX6_passTick := ⟨by decide +kernel, rfl, lwg_2 227 rfl rfl, lwg_1 2 (by decide +kernel) rfl, by decide +kernel, by decide +kernel⟩
theorem np_X6_passTick : npar mX6_passTick 0 := (by decide +kernel : (parseMethodDescriptor yX6_passTick.desc).map (fun q => q.parameters.length) = some 0)
theorem im_X6_passTick : Cond.instanceMethod yX6_passTick ∈ lwg := lwg_2 225 (by decide +kernel) rfl
theorem se_X6_passTick : Cond.selects RX6 yX6_passTick yX6_passTick ∈ lwg := lwg_2 226 (by decide +kernel) rfl
theorem mo_X6_roomAhead : MO mX6_roomAhead := ⟨by decide +kernel, rfl, lwg_3 64 rfl rfl, lwg_1 2 (by decide +kernel) rfl, by decide +kernel, by decide +kernel⟩
theorem np_X6_roomAhead : npar mX6_roomAhead 3 := (by decide +kernel : (parseMethodDescriptor yX6_roomAhead.desc).map (fun q => q.parameters.length) = some 3)
theorem im_X6_roomAhead : Cond.instanceMethod yX6_roomAhead ∈ lwg := lwg_3 62 (by decide +kernel) rfl
theorem se_X6_roomAhead : Cond.selects RX6 yX6_roomAhead yX6_roomAhead ∈ lwg := lwg_3 63 (by decide +kernel) rfl
theorem mo_X6_supply : MO mX6_supply := ⟨by decide +kernel, rfl, lwg_3 45 rfl rfl, lwg_1 2 (by decide +kernel) rfl, by decide +kernel, by decide +kernel⟩
theorem np_X6_supply : npar mX6_supply 2 := (by decide +kernel : (parseMethodDescriptor yX6_supply.desc).map (fun q => q.parameters.length) = some 2)
theorem im_X6_supply : Cond.instanceMethod yX6_supply ∈ lwg := lwg_3 43 (by decide +kernel) rfl
theorem se_X6_supply : Cond.selects RX6 yX6_supply yX6_supply ∈ lwg := lwg_3 44 (by decide +kernel) rfl
theorem mo_X7_all : MO mX7_all := ⟨by decide +kernel, rfl, lwg_3 107 rfl rfl, lwg_1 1 (by decide +kernel) rfl, by decide +kernel, by decide +kernel⟩
theorem np_X7_all : npar mX7_all 1 := (by decide +kernel : (parseMethodDescriptor yX7_all.desc).map (fun q => q.parameters.length) = some 1)
theorem im_X7_all : Cond.instanceMethod yX7_all ∈ lwg := lwg_3 105 (by decide +kernel) rfl
theorem se_X7_all : Cond.selects RX7 yX7_all yX7_all ∈ lwg := lwg_3 106 (by decide +kernel) rfl
theorem mo_X7_as : MO mX7_as := ⟨by decide +kernel, rfl, lwg_2 195 rfl rfl, lwg_1 1 (by decide +kernel) rfl, by decide +kernel, by decide +kernel⟩
theorem np_X7_as : npar mX7_as 2 := (by decide +kernel : (parseMethodDescriptor yX7_as.desc).map (fun q => q.parameters.length) = some 2)
theorem im_X7_as : Cond.instanceMethod yX7_as ∈ lwg := lwg_2 193 (by decide +kernel) rfl
theorem se_X7_as : Cond.selects RX7 yX7_as yX7_as ∈ lwg := lwg_2 194 (by decide +kernel) rfl
theorem mo_X7_begin : MO mX7_begin := ⟨by decide +kernel, rfl, lwg_3 205 rfl rfl, lwg_1 1 (by decide +kernel) rfl, by decide +kernel, by decide +kernel⟩
theorem np_X7_begin : npar mX7_begin 2 := (by decide +kernel : (parseMethodDescriptor yX7_begin.desc).map (fun q => q.parameters.length) = some 2)
theorem im_X7_begin : Cond.instanceMethod yX7_begin ∈ lwg := lwg_3 203 (by decide +kernel) rfl
theorem se_X7_begin : Cond.selects RX7 yX7_begin yX7_begin ∈ lwg := lwg_3 204 (by decide +kernel) rfl
theorem mo_X7_book : MO mX7_book := ⟨by decide +kernel, rfl, lwg_4 229 rfl rfl, lwg_1 1 (by decide +kernel) rfl, by decide +kernel, by decide +kernel⟩
theorem np_X7_book : npar mX7_book 2 := (by decide +kernel : (parseMethodDescriptor yX7_book.desc).map (fun q => q.parameters.length) = some 2)
theorem im_X7_book : Cond.instanceMethod yX7_book ∈ lwg := lwg_4 227 (by decide +kernel) rfl
theorem se_X7_book : Cond.selects RX7 yX7_book yX7_book ∈ lwg := lwg_4 228 (by decide +kernel) rfl
theorem mo_X7_change : MO mX7_change := ⟨by decide +kernel, rfl, lwg_2 179 rfl rfl, lwg_1 1 (by decide +kernel) rfl, by decide +kernel, by decide +kernel⟩
theorem np_X7_change : npar mX7_change 3 := (by decide +kernel : (parseMethodDescriptor yX7_change.desc).map (fun q => q.parameters.length) = some 3)
theorem im_X7_change : Cond.instanceMethod yX7_change ∈ lwg := lwg_2 177 (by decide +kernel) rfl
theorem se_X7_change : Cond.selects RX7 yX7_change yX7_change ∈ lwg := lwg_2 178 (by decide +kernel) rfl
theorem mo_X7_copy : MO mX7_copy := ⟨by decide +kernel, rfl, lwg_4 215 rfl rfl, lwg_1 1 (by decide +kernel) rfl, by decide +kernel, by decide +kernel⟩
theorem np_X7_copy : npar mX7_copy 5 := (by decide +kernel : (parseMethodDescriptor yX7_copy.desc).map (fun q => q.parameters.length) = some 5)
theorem im_X7_copy : Cond.instanceMethod yX7_copy ∈ lwg := lwg_4 213 (by decide +kernel) rfl
theorem se_X7_copy : Cond.selects RX7 yX7_copy yX7_copy ∈ lwg := lwg_4 214 (by decide +kernel) rfl
theorem mo_X7_cost : MO mX7_cost := ⟨by decide +kernel, rfl, lwg_3 129 rfl rfl, lwg_1 1 (by decide +kernel) rfl, by decide +kernel, by decide +kernel⟩
theorem np_X7_cost : npar mX7_cost 3 := (by decide +kernel : (parseMethodDescriptor yX7_cost.desc).map (fun q => q.parameters.length) = some 3)
theorem im_X7_cost : Cond.instanceMethod yX7_cost ∈ lwg := lwg_3 127 (by decide +kernel) rfl
theorem se_X7_cost : Cond.selects RX7 yX7_cost yX7_cost ∈ lwg := lwg_3 128 (by decide +kernel) rfl
theorem mo_X7_count : MO mX7_count := ⟨by decide +kernel, rfl, lwg_5 28 rfl rfl, lwg_1 1 (by decide +kernel) rfl, by decide +kernel, by decide +kernel⟩
theorem np_X7_count : npar mX7_count 1 := (by decide +kernel : (parseMethodDescriptor yX7_count.desc).map (fun q => q.parameters.length) = some 1)
theorem im_X7_count : Cond.instanceMethod yX7_count ∈ lwg := lwg_5 26 (by decide +kernel) rfl
theorem se_X7_count : Cond.selects RX7 yX7_count yX7_count ∈ lwg := lwg_5 27 (by decide +kernel) rfl
theorem mo_X7_feed : MO mX7_feed := ⟨by decide +kernel, rfl, lwg_4 49 rfl rfl, lwg_1 1 (by decide +kernel) rfl, by decide +kernel, by decide +kernel⟩
theorem np_X7_feed : npar mX7_feed 2 := (by decide +kernel : (parseMethodDescriptor yX7_feed.desc).map (fun q => q.parameters.length) = some 2)
theorem im_X7_feed : Cond.instanceMethod yX7_feed ∈ lwg := lwg_4 47 (by decide +kernel) rfl
theorem se_X7_feed : Cond.selects RX7 yX7_feed yX7_feed ∈ lwg := lwg_4 48 (by decide +kernel) rfl
theorem mo_X7_follow : MO mX7_follow := ⟨by decide +kernel, rfl, lwg_5 2 rfl rfl, lwg_1 1 (by decide +kernel) rfl, by decide +kernel, by decide +kernel⟩
theorem np_X7_follow : npar mX7_follow 3 := (by decide +kernel : (parseMethodDescriptor yX7_follow.desc).map (fun q => q.parameters.length) = some 3)
theorem im_X7_follow : Cond.instanceMethod yX7_follow ∈ lwg := lwg_5 1 (by decide +kernel) rfl
theorem se_X7_follow : Cond.selects RX7 yX7_follow yX7_follow ∈ lwg := lwg_0 35 (by decide +kernel) rfl
theorem mo_X7_found : MO mX7_found := ⟨by decide +kernel, rfl, lwg_2 96 rfl rfl, lwg_1 1 (by decide +kernel) rfl, by decide +kernel, by decide +kernel⟩
theorem np_X7_found : npar mX7_found 1 := (by decide +kernel : (parseMethodDescriptor yX7_found.desc).map (fun q => q.parameters.length) = some 1)
theorem im_X7_found : Cond.instanceMethod yX7_found ∈ lwg := lwg_2 95 (by decide +kernel) rfl
theorem se_X7_found : Cond.selects RX7 yX7_found yX7_found ∈ lwg := lwg_0 0 (by decide +kernel) rfl
theorem mo_X7_gain : MO mX7_gain := ⟨by decide +kernel, rfl, lwg_4 34 rfl rfl, lwg_1 1 (by decide +kernel) rfl, by decide +kernel, by decide +kernel⟩
theorem np_X7_gain : npar mX7_gain 3 := (by decide +kernel : (parseMethodDescriptor yX7_gain.desc).map (fun q => q.parameters.length) = some 3)
theorem im_X7_gain : Cond.instanceMethod yX7_gain ∈ lwg := lwg_4 32 (by decide +kernel) rfl
theorem se_X7_gain : Cond.selects RX7 yX7_gain yX7_gain ∈ lwg := lwg_4 33 (by decide +kernel) rfl
theorem mo_X7_go : MO mX7_go := ⟨by decide +kernel, rfl, lwg_2 222 rfl rfl, lwg_1 1 (by decide +kernel) rfl, by decide +kernel, by decide +kernel⟩
theorem np_X7_go : npar mX7_go 1 := (by decide +kernel : (parseMethodDescriptor yX7_go.desc).map (fun q => q.parameters.length) = some 1)
theorem im_X7_go : Cond.instanceMethod yX7_go ∈ lwg := lwg_2 220 (by decide +kernel) rfl
theorem se_X7_go : Cond.selects RX7 yX7_go yX7_go ∈ lwg := lwg_2 221 (by decide +kernel) rfl
theorem mo_X7_goal : MO mX7_goal := ⟨by decide +kernel, rfl, lwg_3 217 rfl rfl, lwg_1 1 (by decide +kernel) rfl, by decide +kernel, by decide +kernel⟩
theorem np_X7_goal : npar mX7_goal 1 := (by decide +kernel : (parseMethodDescriptor yX7_goal.desc).map (fun q => q.parameters.length) = some 1)
theorem im_X7_goal : Cond.instanceMethod yX7_goal ∈ lwg := lwg_3 215 (by decide +kernel) rfl
theorem se_X7_goal : Cond.selects RX7 yX7_goal yX7_goal ∈ lwg := lwg_3 216 (by decide +kernel) rfl
theorem mo_X7_held : MO mX7_held := ⟨by decide +kernel, rfl, lwg_3 200 rfl rfl, lwg_1 1 (by decide +kernel) rfl, by decide +kernel, by decide +kernel⟩
theorem np_X7_held : npar mX7_held 3 := (by decide +kernel : (parseMethodDescriptor yX7_held.desc).map (fun q => q.parameters.length) = some 3)
theorem im_X7_held : Cond.instanceMethod yX7_held ∈ lwg := lwg_3 198 (by decide +kernel) rfl
theorem se_X7_held : Cond.selects RX7 yX7_held yX7_held ∈ lwg := lwg_3 199 (by decide +kernel) rfl
theorem mo_X7_image : MO mX7_image := ⟨by decide +kernel, rfl, lwg_5 16 rfl rfl, lwg_1 1 (by decide +kernel) rfl, by decide +kernel, by decide +kernel⟩
theorem np_X7_image : npar mX7_image 0 := (by decide +kernel : (parseMethodDescriptor yX7_image.desc).map (fun q => q.parameters.length) = some 0)
theorem im_X7_image : Cond.instanceMethod yX7_image ∈ lwg := lwg_5 14 (by decide +kernel) rfl
theorem se_X7_image : Cond.selects RX7 yX7_image yX7_image ∈ lwg := lwg_5 15 (by decide +kernel) rfl
theorem mo_X7_isAsked : MO mX7_isAsked := ⟨by decide +kernel, rfl, lwg_3 24 rfl rfl, lwg_1 1 (by decide +kernel) rfl, by decide +kernel, by decide +kernel⟩
theorem np_X7_isAsked : npar mX7_isAsked 2 := (by decide +kernel : (parseMethodDescriptor yX7_isAsked.desc).map (fun q => q.parameters.length) = some 2)
theorem im_X7_isAsked : Cond.instanceMethod yX7_isAsked ∈ lwg := lwg_3 23 (by decide +kernel) rfl
theorem se_X7_isAsked : Cond.selects RX7 yX7_isAsked yX7_isAsked ∈ lwg := lwg_0 1 (by decide +kernel) rfl
theorem mo_X7_isIn : MO mX7_isIn := ⟨by decide +kernel, rfl, lwg_2 91 rfl rfl, lwg_1 1 (by decide +kernel) rfl, by decide +kernel, by decide +kernel⟩
theorem np_X7_isIn : npar mX7_isIn 3 := (by decide +kernel : (parseMethodDescriptor yX7_isIn.desc).map (fun q => q.parameters.length) = some 3)
theorem sc_X7_isIn : Cond.static yX7_isIn ∈ lwg := lwg_2 90 (by decide +kernel) rfl
theorem mo_X7_isUnder : MO mX7_isUnder := ⟨by decide +kernel, rfl, lwg_2 200 rfl rfl, lwg_1 1 (by decide +kernel) rfl, by decide +kernel, by decide +kernel⟩
theorem np_X7_isUnder : npar mX7_isUnder 3 := (by decide +kernel : (parseMethodDescriptor yX7_isUnder.desc).map (fun q => q.parameters.length) = some 3)
theorem sc_X7_isUnder : Cond.static yX7_isUnder ∈ lwg := lwg_2 199 (by decide +kernel) rfl
theorem mo_X7_its : MO mX7_its := ⟨by decide +kernel, rfl, lwg_2 144 rfl rfl, lwg_1 1 (by decide +kernel) rfl, by decide +kernel, by decide +kernel⟩
theorem np_X7_its : npar mX7_its 2 := (by decide +kernel : (parseMethodDescriptor yX7_its.desc).map (fun q => q.parameters.length) = some 2)
theorem im_X7_its : Cond.instanceMethod yX7_its ∈ lwg := lwg_2 142 (by decide +kernel) rfl
theorem se_X7_its : Cond.selects RX7 yX7_its yX7_its ∈ lwg := lwg_2 143 (by decide +kernel) rfl
theorem mo_X7_kind : MO mX7_kind := ⟨by decide +kernel, rfl, lwg_3 213 rfl rfl, lwg_1 1 (by decide +kernel) rfl, by decide +kernel, by decide +kernel⟩
theorem np_X7_kind : npar mX7_kind 3 := (by decide +kernel : (parseMethodDescriptor yX7_kind.desc).map (fun q => q.parameters.length) = some 3)
theorem im_X7_kind : Cond.instanceMethod yX7_kind ∈ lwg := lwg_3 211 (by decide +kernel) rfl
theorem se_X7_kind : Cond.selects RX7 yX7_kind yX7_kind ∈ lwg := lwg_3 212 (by decide +kernel) rfl
theorem mo_X7_lays : MO mX7_lays := ⟨by decide +kernel, rfl, lwg_4 224 rfl rfl, lwg_1 1 (by decide +kernel) rfl, by decide +kernel, by decide +kernel⟩
theorem np_X7_lays : npar mX7_lays 1 := (by decide +kernel : (parseMethodDescriptor yX7_lays.desc).map (fun q => q.parameters.length) = some 1)
theorem im_X7_lays : Cond.instanceMethod yX7_lays ∈ lwg := lwg_4 222 (by decide +kernel) rfl
theorem se_X7_lays : Cond.selects RX7 yX7_lays yX7_lays ∈ lwg := lwg_4 223 (by decide +kernel) rfl
theorem mo_X7_line : MO mX7_line := ⟨by decide +kernel, rfl, lwg_2 105 rfl rfl, lwg_1 1 (by decide +kernel) rfl, by decide +kernel, by decide +kernel⟩
theorem np_X7_line : npar mX7_line 5 := (by decide +kernel : (parseMethodDescriptor yX7_line.desc).map (fun q => q.parameters.length) = some 5)
theorem im_X7_line : Cond.instanceMethod yX7_line ∈ lwg := lwg_2 103 (by decide +kernel) rfl
theorem se_X7_line : Cond.selects RX7 yX7_line yX7_line ∈ lwg := lwg_2 104 (by decide +kernel) rfl
theorem mo_X7_lose : MO mX7_lose := ⟨by decide +kernel, rfl, lwg_3 154 rfl rfl, lwg_1 1 (by decide +kernel) rfl, by decide +kernel, by decide +kernel⟩
theorem np_X7_lose : npar mX7_lose 2 := (by decide +kernel : (parseMethodDescriptor yX7_lose.desc).map (fun q => q.parameters.length) = some 2)
theorem im_X7_lose : Cond.instanceMethod yX7_lose ∈ lwg := lwg_3 152 (by decide +kernel) rfl
theorem se_X7_lose : Cond.selects RX7 yX7_lose yX7_lose ∈ lwg := lwg_3 153 (by decide +kernel) rfl
theorem mo_X7_most : MO mX7_most := ⟨by decide +kernel, rfl, lwg_3 20 rfl rfl, lwg_1 1 (by decide +kernel) rfl, by decide +kernel, by decide +kernel⟩
theorem np_X7_most : npar mX7_most 2 := (by decide +kernel : (parseMethodDescriptor yX7_most.desc).map (fun q => q.parameters.length) = some 2)
theorem im_X7_most : Cond.instanceMethod yX7_most ∈ lwg := lwg_3 18 (by decide +kernel) rfl
theorem se_X7_most : Cond.selects RX7 yX7_most yX7_most ∈ lwg := lwg_3 19 (by decide +kernel) rfl
theorem mo_X7_mostHeld : MO mX7_mostHeld := ⟨by decide +kernel, rfl, lwg_3 166 rfl rfl, lwg_1 1 (by decide +kernel) rfl, by decide +kernel, by decide +kernel⟩
theorem np_X7_mostHeld : npar mX7_mostHeld 4 := (by decide +kernel : (parseMethodDescriptor yX7_mostHeld.desc).map (fun q => q.parameters.length) = some 4)
theorem im_X7_mostHeld : Cond.instanceMethod yX7_mostHeld ∈ lwg := lwg_3 165 (by decide +kernel) rfl
theorem se_X7_mostHeld : Cond.selects RX7 yX7_mostHeld yX7_mostHeld ∈ lwg := lwg_0 14 (by decide +kernel) rfl
theorem mo_X7_mostIn : MO mX7_mostIn := ⟨by decide +kernel, rfl, lwg_3 28 rfl rfl, lwg_1 1 (by decide +kernel) rfl, by decide +kernel, by decide +kernel⟩
theorem np_X7_mostIn : npar mX7_mostIn 3 := (by decide +kernel : (parseMethodDescriptor yX7_mostIn.desc).map (fun q => q.parameters.length) = some 3)
theorem im_X7_mostIn : Cond.instanceMethod yX7_mostIn ∈ lwg := lwg_3 27 (by decide +kernel) rfl
theorem se_X7_mostIn : Cond.selects RX7 yX7_mostIn yX7_mostIn ∈ lwg := lwg_0 2 (by decide +kernel) rfl
theorem mo_X7_mostWidened : MO mX7_mostWidened := ⟨by decide +kernel, rfl, lwg_3 183 rfl rfl, lwg_1 1 (by decide +kernel) rfl, by decide +kernel, by decide +kernel⟩
theorem np_X7_mostWidened : npar mX7_mostWidened 3 := (by decide +kernel : (parseMethodDescriptor yX7_mostWidened.desc).map (fun q => q.parameters.length) = some 3)
theorem im_X7_mostWidened : Cond.instanceMethod yX7_mostWidened ∈ lwg := lwg_3 182 (by decide +kernel) rfl
theorem se_X7_mostWidened : Cond.selects RX7 yX7_mostWidened yX7_mostWidened ∈ lwg := lwg_0 15 (by decide +kernel) rfl
theorem mo_X7_near : MO mX7_near := ⟨by decide +kernel, rfl, lwg_3 117 rfl rfl, lwg_1 1 (by decide +kernel) rfl, by decide +kernel, by decide +kernel⟩
theorem np_X7_near : npar mX7_near 3 := (by decide +kernel : (parseMethodDescriptor yX7_near.desc).map (fun q => q.parameters.length) = some 3)
theorem im_X7_near : Cond.instanceMethod yX7_near ∈ lwg := lwg_3 115 (by decide +kernel) rfl
theorem se_X7_near : Cond.selects RX7 yX7_near yX7_near ∈ lwg := lwg_3 116 (by decide +kernel) rfl
theorem mo_X7_now : MO mX7_now := ⟨by decide +kernel, rfl, lwg_2 232 rfl rfl, lwg_1 1 (by decide +kernel) rfl, by decide +kernel, by decide +kernel⟩
theorem np_X7_now : npar mX7_now 1 := (by decide +kernel : (parseMethodDescriptor yX7_now.desc).map (fun q => q.parameters.length) = some 1)
theorem im_X7_now : Cond.instanceMethod yX7_now ∈ lwg := lwg_2 230 (by decide +kernel) rfl
theorem se_X7_now : Cond.selects RX7 yX7_now yX7_now ∈ lwg := lwg_2 231 (by decide +kernel) rfl
theorem mo_X7_of : MO mX7_of := ⟨by decide +kernel, rfl, lwg_2 126 rfl rfl, lwg_1 1 (by decide +kernel) rfl, by decide +kernel, by decide +kernel⟩
theorem np_X7_of : npar mX7_of 2 := (by decide +kernel : (parseMethodDescriptor yX7_of.desc).map (fun q => q.parameters.length) = some 2)
theorem im_X7_of : Cond.instanceMethod yX7_of ∈ lwg := lwg_2 124 (by decide +kernel) rfl
theorem se_X7_of : Cond.selects RX7 yX7_of yX7_of ∈ lwg := lwg_2 125 (by decide +kernel) rfl
theorem mo_X7_planFault : MO mX7_planFault := ⟨by decide +kernel, rfl, lwg_4 238 rfl rfl, lwg_1 1 (by decide +kernel) rfl, by decide +kernel, by decide +kernel⟩
theorem np_X7_planFault : npar mX7_planFault 3 := (by decide +kernel : (parseMethodDescriptor yX7_planFault.desc).map (fun q => q.parameters.length) = some 3)
theorem im_X7_planFault : Cond.instanceMethod yX7_planFault ∈ lwg := lwg_4 237 (by decide +kernel) rfl
theorem se_X7_planFault : Cond.selects RX7 yX7_planFault yX7_planFault ∈ lwg := lwg_0 34 (by decide +kernel) rfl
theorem mo_X7_quick : MO mX7_quick := ⟨by decide +kernel, rfl, lwg_3 98 rfl rfl, lwg_1 1 (by decide +kernel) rfl, by decide +kernel, by decide +kernel⟩
theorem np_X7_quick : npar mX7_quick 2 := (by decide +kernel : (parseMethodDescriptor yX7_quick.desc).map (fun q => q.parameters.length) = some 2)
theorem im_X7_quick : Cond.instanceMethod yX7_quick ∈ lwg := lwg_3 96 (by decide +kernel) rfl
theorem se_X7_quick : Cond.selects RX7 yX7_quick yX7_quick ∈ lwg := lwg_3 97 (by decide +kernel) rfl
theorem mo_X7_rate : MO mX7_rate := ⟨by decide +kernel, rfl, lwg_4 30 rfl rfl, lwg_1 1 (by decide +kernel) rfl, by decide +kernel, by decide +kernel⟩
theorem np_X7_rate : npar mX7_rate 2 := (by decide +kernel : (parseMethodDescriptor yX7_rate.desc).map (fun q => q.parameters.length) = some 2)
theorem im_X7_rate : Cond.instanceMethod yX7_rate ∈ lwg := lwg_4 28 (by decide +kernel) rfl
theorem se_X7_rate : Cond.selects RX7 yX7_rate yX7_rate ∈ lwg := lwg_4 29 (by decide +kernel) rfl
theorem mo_X7_reach : MO mX7_reach := ⟨by decide +kernel, rfl, lwg_4 38 rfl rfl, lwg_1 1 (by decide +kernel) rfl, by decide +kernel, by decide +kernel⟩
theorem np_X7_reach : npar mX7_reach 3 := (by decide +kernel : (parseMethodDescriptor yX7_reach.desc).map (fun q => q.parameters.length) = some 3)
theorem im_X7_reach : Cond.instanceMethod yX7_reach ∈ lwg := lwg_4 36 (by decide +kernel) rfl
theorem se_X7_reach : Cond.selects RX7 yX7_reach yX7_reach ∈ lwg := lwg_4 37 (by decide +kernel) rfl
theorem mo_X7_replay : MO mX7_replay := ⟨by decide +kernel, rfl, lwg_4 234 rfl rfl, lwg_1 1 (by decide +kernel) rfl, by decide +kernel, by decide +kernel⟩
theorem np_X7_replay : npar mX7_replay 3 := (by decide +kernel : (parseMethodDescriptor yX7_replay.desc).map (fun q => q.parameters.length) = some 3)
theorem im_X7_replay : Cond.instanceMethod yX7_replay ∈ lwg := lwg_4 232 (by decide +kernel) rfl
theorem se_X7_replay : Cond.selects RX7 yX7_replay yX7_replay ∈ lwg := lwg_4 233 (by decide +kernel) rfl
theorem mo_X7_run : MO mX7_run := ⟨by decide +kernel, rfl, lwg_5 12 rfl rfl, lwg_1 1 (by decide +kernel) rfl, by decide +kernel, by decide +kernel⟩
theorem np_X7_run : npar mX7_run 3 := (by decide +kernel : (parseMethodDescriptor yX7_run.desc).map (fun q => q.parameters.length) = some 3)
theorem im_X7_run : Cond.instanceMethod yX7_run ∈ lwg := lwg_5 10 (by decide +kernel) rfl
theorem se_X7_run : Cond.selects RX7 yX7_run yX7_run ∈ lwg := lwg_5 11 (by decide +kernel) rfl
theorem mo_X7_send : MO mX7_send := ⟨by decide +kernel, rfl, lwg_2 211 rfl rfl, lwg_1 1 (by decide +kernel) rfl, by decide +kernel, by decide +kernel⟩
theorem np_X7_send : npar mX7_send 2 := (by decide +kernel : (parseMethodDescriptor yX7_send.desc).map (fun q => q.parameters.length) = some 2)
theorem im_X7_send : Cond.instanceMethod yX7_send ∈ lwg := lwg_2 209 (by decide +kernel) rfl
theorem se_X7_send : Cond.selects RX7 yX7_send yX7_send ∈ lwg := lwg_2 210 (by decide +kernel) rfl
theorem mo_X7_set : MO mX7_set := ⟨by decide +kernel, rfl, lwg_2 168 rfl rfl, lwg_1 1 (by decide +kernel) rfl, by decide +kernel, by decide +kernel⟩
theorem np_X7_set : npar mX7_set 3 := (by decide +kernel : (parseMethodDescriptor yX7_set.desc).map (fun q => q.parameters.length) = some 3)
theorem im_X7_set : Cond.instanceMethod yX7_set ∈ lwg := lwg_2 166 (by decide +kernel) rfl
theorem se_X7_set : Cond.selects RX7 yX7_set yX7_set ∈ lwg := lwg_2 167 (by decide +kernel) rfl
theorem mo_X7_sheet : MO mX7_sheet := ⟨by decide +kernel, rfl, lwg_4 192 rfl rfl, lwg_1 1 (by decide +kernel) rfl, by decide +kernel, by decide +kernel⟩
theorem np_X7_sheet : npar mX7_sheet 3 := (by decide +kernel : (parseMethodDescriptor yX7_sheet.desc).map (fun q => q.parameters.length) = some 3)
theorem im_X7_sheet : Cond.instanceMethod yX7_sheet ∈ lwg := lwg_4 190 (by decide +kernel) rfl
theorem se_X7_sheet : Cond.selects RX7 yX7_sheet yX7_sheet ∈ lwg := lwg_4 191 (by decide +kernel) rfl
theorem mo_X7_sheetFault : MO mX7_sheetFault := ⟨by decide +kernel, rfl, lwg_3 133 rfl rfl, lwg_1 1 (by decide +kernel) rfl, by decide +kernel, by decide +kernel⟩
theorem np_X7_sheetFault : npar mX7_sheetFault 1 := (by decide +kernel : (parseMethodDescriptor yX7_sheetFault.desc).map (fun q => q.parameters.length) = some 1)
theorem im_X7_sheetFault : Cond.instanceMethod yX7_sheetFault ∈ lwg := lwg_3 132 (by decide +kernel) rfl
theorem se_X7_sheetFault : Cond.selects RX7 yX7_sheetFault yX7_sheetFault ∈ lwg := lwg_0 13 (by decide +kernel) rfl
theorem mo_X7_stands : MO mX7_stands := ⟨by decide +kernel, rfl, lwg_2 205 rfl rfl, lwg_1 1 (by decide +kernel) rfl, by decide +kernel, by decide +kernel⟩
theorem np_X7_stands : npar mX7_stands 2 := (by decide +kernel : (parseMethodDescriptor yX7_stands.desc).map (fun q => q.parameters.length) = some 2)
theorem im_X7_stands : Cond.instanceMethod yX7_stands ∈ lwg := lwg_2 203 (by decide +kernel) rfl
theorem se_X7_stands : Cond.selects RX7 yX7_stands yX7_stands ∈ lwg := lwg_2 204 (by decide +kernel) rfl
theorem mo_X7_station : MO mX7_station := ⟨by decide +kernel, rfl, lwg_2 88 rfl rfl, lwg_1 1 (by decide +kernel) rfl, by decide +kernel, by decide +kernel⟩
theorem np_X7_station : npar mX7_station 2 := (by decide +kernel : (parseMethodDescriptor yX7_station.desc).map (fun q => q.parameters.length) = some 2)
theorem im_X7_station : Cond.instanceMethod yX7_station ∈ lwg := lwg_2 86 (by decide +kernel) rfl
theorem se_X7_station : Cond.selects RX7 yX7_station yX7_station ∈ lwg := lwg_2 87 (by decide +kernel) rfl
theorem mo_X7_status : MO mX7_status := ⟨by decide +kernel, rfl, lwg_5 32 rfl rfl, lwg_1 1 (by decide +kernel) rfl, by decide +kernel, by decide +kernel⟩
theorem np_X7_status : npar mX7_status 1 := (by decide +kernel : (parseMethodDescriptor yX7_status.desc).map (fun q => q.parameters.length) = some 1)
theorem im_X7_status : Cond.instanceMethod yX7_status ∈ lwg := lwg_5 30 (by decide +kernel) rfl
theorem se_X7_status : Cond.selects RX7 yX7_status yX7_status ∈ lwg := lwg_5 31 (by decide +kernel) rfl
theorem mo_X7_steady : MO mX7_steady := ⟨by decide +kernel, rfl, lwg_3 221 rfl rfl, lwg_1 1 (by decide +kernel) rfl, by decide +kernel, by decide +kernel⟩
theorem np_X7_steady : npar mX7_steady 3 := (by decide +kernel : (parseMethodDescriptor yX7_steady.desc).map (fun q => q.parameters.length) = some 3)
theorem im_X7_steady : Cond.instanceMethod yX7_steady ∈ lwg := lwg_3 219 (by decide +kernel) rfl
theorem se_X7_steady : Cond.selects RX7 yX7_steady yX7_steady ∈ lwg := lwg_3 220 (by decide +kernel) rfl
theorem mo_X7_tear : MO mX7_tear := ⟨by decide +kernel, rfl, lwg_5 24 rfl rfl, lwg_1 1 (by decide +kernel) rfl, by decide +kernel, by decide +kernel⟩
theorem np_X7_tear : npar mX7_tear 0 := (by decide +kernel : (parseMethodDescriptor yX7_tear.desc).map (fun q => q.parameters.length) = some 0)
theorem im_X7_tear : Cond.instanceMethod yX7_tear ∈ lwg := lwg_5 22 (by decide +kernel) rfl
theorem se_X7_tear : Cond.selects RX7 yX7_tear yX7_tear ∈ lwg := lwg_5 23 (by decide +kernel) rfl
theorem mo_X7_text : MO mX7_text := ⟨by decide +kernel, rfl, lwg_4 61 rfl rfl, lwg_1 1 (by decide +kernel) rfl, by decide +kernel, by decide +kernel⟩
theorem np_X7_text : npar mX7_text 0 := (by decide +kernel : (parseMethodDescriptor yX7_text.desc).map (fun q => q.parameters.length) = some 0)
theorem im_X7_text : Cond.instanceMethod yX7_text ∈ lwg := lwg_4 59 (by decide +kernel) rfl
theorem se_X7_text : Cond.selects RX7 yX7_text yX7_text ∈ lwg := lwg_4 60 (by decide +kernel) rfl
theorem mo_X7_ticksUntil : MO mX7_ticksUntil := ⟨by decide +kernel, rfl, lwg_3 102 rfl rfl, lwg_1 1 (by decide +kernel) rfl, by decide +kernel, by decide +kernel⟩
theorem np_X7_ticksUntil : npar mX7_ticksUntil 2 := (by decide +kernel : (parseMethodDescriptor yX7_ticksUntil.desc).map (fun q => q.parameters.length) = some 2)
theorem im_X7_ticksUntil : Cond.instanceMethod yX7_ticksUntil ∈ lwg := lwg_3 101 (by decide +kernel) rfl
theorem se_X7_ticksUntil : Cond.selects RX7 yX7_ticksUntil yX7_ticksUntil ∈ lwg := lwg_0 12 (by decide +kernel) rfl
theorem mo_X7_undo : MO mX7_undo := ⟨by decide +kernel, rfl, lwg_5 20 rfl rfl, lwg_1 1 (by decide +kernel) rfl, by decide +kernel, by decide +kernel⟩
theorem np_X7_undo : npar mX7_undo 0 := (by decide +kernel : (parseMethodDescriptor yX7_undo.desc).map (fun q => q.parameters.length) = some 0)
theorem im_X7_undo : Cond.instanceMethod yX7_undo ∈ lwg := lwg_5 18 (by decide +kernel) rfl
theorem se_X7_undo : Cond.selects RX7 yX7_undo yX7_undo ∈ lwg := lwg_5 19 (by decide +kernel) rfl
theorem mo_X7_widen : MO mX7_widen := ⟨by decide +kernel, rfl, lwg_3 174 rfl rfl, lwg_1 1 (by decide +kernel) rfl, by decide +kernel, by decide +kernel⟩
theorem np_X7_widen : npar mX7_widen 2 := (by decide +kernel : (parseMethodDescriptor yX7_widen.desc).map (fun q => q.parameters.length) = some 2)
theorem im_X7_widen : Cond.instanceMethod yX7_widen ∈ lwg := lwg_3 172 (by decide +kernel) rfl
theorem se_X7_widen : Cond.selects RX7 yX7_widen yX7_widen ∈ lwg := lwg_3 173 (by decide +kernel) rfl
theorem mo_X7_wipe : MO mX7_wipe := ⟨by decide +kernel, rfl, lwg_4 57 rfl rfl, lwg_1 1 (by decide +kernel) rfl, by decide +kernel, by decide +kernel⟩
theorem np_X7_wipe : npar mX7_wipe 0 := (by decide +kernel : (parseMethodDescriptor yX7_wipe.desc).map (fun q => q.parameters.length) = some 0)
theorem im_X7_wipe : Cond.instanceMethod yX7_wipe ∈ lwg := lwg_4 55 (by decide +kernel) rfl
theorem se_X7_wipe : Cond.selects RX7 yX7_wipe yX7_wipe ∈ lwg := lwg_4 56 (by decide +kernel) rfl
theorem mo_X7_write : MO mX7_write := ⟨by decide +kernel, rfl, lwg_4 207 rfl rfl, lwg_1 1 (by decide +kernel) rfl, by decide +kernel, by decide +kernel⟩
theorem np_X7_write : npar mX7_write 3 := (by decide +kernel : (parseMethodDescriptor yX7_write.desc).map (fun q => q.parameters.length) = some 3)
theorem im_X7_write : Cond.instanceMethod yX7_write ∈ lwg := lwg_4 205 (by decide +kernel) rfl
theorem se_X7_write : Cond.selects RX7 yX7_write yX7_write ∈ lwg := lwg_4 206 (by decide +kernel) rfl
theorem mo_X8_addLine : MO mX8_addLine := ⟨by decide +kernel, rfl, lwg_5 194 rfl rfl, lwg_1 9 (by decide +kernel) rfl, by decide +kernel, by decide +kernel⟩
theorem np_X8_addLine : npar mX8_addLine 3 := (by decide +kernel : (parseMethodDescriptor yX8_addLine.desc).map (fun q => q.parameters.length) = some 3)
theorem im_X8_addLine : Cond.instanceMethod yX8_addLine ∈ lwg := lwg_5 193 (by decide +kernel) rfl
theorem se_X8_addLine : Cond.selects RX8 yX8_addLine yX8_addLine ∈ lwg := lwg_0 39 (by decide +kernel) rfl
theorem mo_X8_addStation : MO mX8_addStation := ⟨by decide +kernel, rfl, lwg_5 179 rfl rfl, lwg_1 9 (by decide +kernel) rfl, by decide +kernel, by decide +kernel⟩
theorem np_X8_addStation : npar mX8_addStation 3 := (by decide +kernel : (parseMethodDescriptor yX8_addStation.desc).map (fun q => q.parameters.length) = some 3)
theorem im_X8_addStation : Cond.instanceMethod yX8_addStation ∈ lwg := lwg_5 178 (by decide +kernel) rfl
theorem se_X8_addStation : Cond.selects RX8 yX8_addStation yX8_addStation ∈ lwg := lwg_0 37 (by decide +kernel) rfl
theorem mo_X8_all : MO mX8_all := ⟨by decide +kernel, rfl, lwg_6 131 rfl rfl, lwg_1 9 (by decide +kernel) rfl, by decide +kernel, by decide +kernel⟩
theorem np_X8_all : npar mX8_all 1 := (by decide +kernel : (parseMethodDescriptor yX8_all.desc).map (fun q => q.parameters.length) = some 1)
theorem im_X8_all : Cond.instanceMethod yX8_all ∈ lwg := lwg_6 129 (by decide +kernel) rfl
theorem se_X8_all : Cond.selects RX8 yX8_all yX8_all ∈ lwg := lwg_6 130 (by decide +kernel) rfl
theorem mo_X8_allOnWay : MO mX8_allOnWay := ⟨by decide +kernel, rfl, lwg_6 54 rfl rfl, lwg_1 9 (by decide +kernel) rfl, by decide +kernel, by decide +kernel⟩
theorem np_X8_allOnWay : npar mX8_allOnWay 0 := (by decide +kernel : (parseMethodDescriptor yX8_allOnWay.desc).map (fun q => q.parameters.length) = some 0)
theorem im_X8_allOnWay : Cond.instanceMethod yX8_allOnWay ∈ lwg := lwg_6 53 (by decide +kernel) rfl
theorem se_X8_allOnWay : Cond.selects RX8 yX8_allOnWay yX8_allOnWay ∈ lwg := lwg_0 53 (by decide +kernel) rfl
theorem mo_X8_areTwo : MO mX8_areTwo := ⟨by decide +kernel, rfl, lwg_6 180 rfl rfl, lwg_1 9 (by decide +kernel) rfl, by decide +kernel, by decide +kernel⟩
theorem np_X8_areTwo : npar mX8_areTwo 2 := (by decide +kernel : (parseMethodDescriptor yX8_areTwo.desc).map (fun q => q.parameters.length) = some 2)
theorem im_X8_areTwo : Cond.instanceMethod yX8_areTwo ∈ lwg := lwg_6 179 (by decide +kernel) rfl
theorem se_X8_areTwo : Cond.selects RX8 yX8_areTwo yX8_areTwo ∈ lwg := lwg_0 70 (by decide +kernel) rfl
theorem mo_X8_as : MO mX8_as := ⟨by decide +kernel, rfl, lwg_6 14 rfl rfl, lwg_1 9 (by decide +kernel) rfl, by decide +kernel, by decide +kernel⟩
theorem np_X8_as : npar mX8_as 2 := (by decide +kernel : (parseMethodDescriptor yX8_as.desc).map (fun q => q.parameters.length) = some 2)
theorem im_X8_as : Cond.instanceMethod yX8_as ∈ lwg := lwg_6 12 (by decide +kernel) rfl
theorem se_X8_as : Cond.selects RX8 yX8_as yX8_as ∈ lwg := lwg_6 13 (by decide +kernel) rfl
theorem mo_X8_at : MO mX8_at := ⟨by decide +kernel, rfl, lwg_5 211 rfl rfl, lwg_1 9 (by decide +kernel) rfl, by decide +kernel, by decide +kernel⟩
theorem np_X8_at : npar mX8_at 2 := (by decide +kernel : (parseMethodDescriptor yX8_at.desc).map (fun q => q.parameters.length) = some 2)
theorem im_X8_at : Cond.instanceMethod yX8_at ∈ lwg := lwg_5 210 (by decide +kernel) rfl
theorem se_X8_at : Cond.selects RX8 yX8_at yX8_at ∈ lwg := lwg_0 42 (by decide +kernel) rfl
theorem mo_X8_begin : MO mX8_begin := ⟨by decide +kernel, rfl, lwg_6 164 rfl rfl, lwg_1 9 (by decide +kernel) rfl, by decide +kernel, by decide +kernel⟩
theorem np_X8_begin : npar mX8_begin 2 := (by decide +kernel : (parseMethodDescriptor yX8_begin.desc).map (fun q => q.parameters.length) = some 2)
theorem im_X8_begin : Cond.instanceMethod yX8_begin ∈ lwg := lwg_6 162 (by decide +kernel) rfl
theorem se_X8_begin : Cond.selects RX8 yX8_begin yX8_begin ∈ lwg := lwg_6 163 (by decide +kernel) rfl
theorem mo_X8_behind : MO mX8_behind := ⟨by decide +kernel, rfl, lwg_6 106 rfl rfl, lwg_1 9 (by decide +kernel) rfl, by decide +kernel, by decide +kernel⟩
theorem np_X8_behind : npar mX8_behind 1 := (by decide +kernel : (parseMethodDescriptor yX8_behind.desc).map (fun q => q.parameters.length) = some 1)
theorem im_X8_behind : Cond.instanceMethod yX8_behind ∈ lwg := lwg_6 105 (by decide +kernel) rfl
theorem se_X8_behind : Cond.selects RX8 yX8_behind yX8_behind ∈ lwg := lwg_0 64 (by decide +kernel) rfl
theorem mo_X8_book : MO mX8_book := ⟨by decide +kernel, rfl, lwg_7 54 rfl rfl, lwg_1 9 (by decide +kernel) rfl, by decide +kernel, by decide +kernel⟩
theorem np_X8_book : npar mX8_book 2 := (by decide +kernel : (parseMethodDescriptor yX8_book.desc).map (fun q => q.parameters.length) = some 2)
theorem im_X8_book : Cond.instanceMethod yX8_book ∈ lwg := lwg_7 52 (by decide +kernel) rfl
theorem se_X8_book : Cond.selects RX8 yX8_book yX8_book ∈ lwg := lwg_7 53 (by decide +kernel) rfl
theorem mo_X8_brings : MO mX8_brings := ⟨by decide +kernel, rfl, lwg_6 90 rfl rfl, lwg_1 9 (by decide +kernel) rfl, by decide +kernel, by decide +kernel⟩
theorem np_X8_brings : npar mX8_brings 2 := (by decide +kernel : (parseMethodDescriptor yX8_brings.desc).map (fun q => q.parameters.length) = some 2)
theorem im_X8_brings : Cond.instanceMethod yX8_brings ∈ lwg := lwg_6 89 (by decide +kernel) rfl
theorem se_X8_brings : Cond.selects RX8 yX8_brings yX8_brings ∈ lwg := lwg_0 60 (by decide +kernel) rfl
theorem mo_X8_byteAt : MO mX8_byteAt := ⟨by decide +kernel, rfl, lwg_6 238 rfl rfl, lwg_1 9 (by decide +kernel) rfl, by decide +kernel, by decide +kernel⟩
theorem np_X8_byteAt : npar mX8_byteAt 1 := (by decide +kernel : (parseMethodDescriptor yX8_byteAt.desc).map (fun q => q.parameters.length) = some 1)
theorem im_X8_byteAt : Cond.instanceMethod yX8_byteAt ∈ lwg := lwg_6 237 (by decide +kernel) rfl
theorem se_X8_byteAt : Cond.selects RX8 yX8_byteAt yX8_byteAt ∈ lwg := lwg_0 77 (by decide +kernel) rfl
theorem mo_X8_canSend : MO mX8_canSend := ⟨by decide +kernel, rfl, lwg_6 28 rfl rfl, lwg_1 9 (by decide +kernel) rfl, by decide +kernel, by decide +kernel⟩
theorem np_X8_canSend : npar mX8_canSend 2 := (by decide +kernel : (parseMethodDescriptor yX8_canSend.desc).map (fun q => q.parameters.length) = some 2)
theorem im_X8_canSend : Cond.instanceMethod yX8_canSend ∈ lwg := lwg_6 27 (by decide +kernel) rfl
theorem se_X8_canSend : Cond.selects RX8 yX8_canSend yX8_canSend ∈ lwg := lwg_0 49 (by decide +kernel) rfl
theorem mo_X8_change : MO mX8_change := ⟨by decide +kernel, rfl, lwg_6 5 rfl rfl, lwg_1 9 (by decide +kernel) rfl, by decide +kernel, by decide +kernel⟩
theorem np_X8_change : npar mX8_change 3 := (by decide +kernel : (parseMethodDescriptor yX8_change.desc).map (fun q => q.parameters.length) = some 3)
theorem im_X8_change : Cond.instanceMethod yX8_change ∈ lwg := lwg_6 3 (by decide +kernel) rfl
theorem se_X8_change : Cond.selects RX8 yX8_change yX8_change ∈ lwg := lwg_6 4 (by decide +kernel) rfl
theorem mo_X8_comesBack : MO mX8_comesBack := ⟨by decide +kernel, rfl, lwg_7 82 rfl rfl, lwg_1 9 (by decide +kernel) rfl, by decide +kernel, by decide +kernel⟩
theorem np_X8_comesBack : npar mX8_comesBack 1 := (by decide +kernel : (parseMethodDescriptor yX8_comesBack.desc).map (fun q => q.parameters.length) = some 1)
theorem im_X8_comesBack : Cond.instanceMethod yX8_comesBack ∈ lwg := lwg_7 81 (by decide +kernel) rfl
theorem se_X8_comesBack : Cond.selects RX8 yX8_comesBack yX8_comesBack ∈ lwg := lwg_0 90 (by decide +kernel) rfl
theorem mo_X8_comesTo : MO mX8_comesTo := ⟨by decide +kernel, rfl, lwg_5 207 rfl rfl, lwg_1 9 (by decide +kernel) rfl, by decide +kernel, by decide +kernel⟩
theorem np_X8_comesTo : npar mX8_comesTo 1 := (by decide +kernel : (parseMethodDescriptor yX8_comesTo.desc).map (fun q => q.parameters.length) = some 1)
theorem im_X8_comesTo : Cond.instanceMethod yX8_comesTo ∈ lwg := lwg_5 206 (by decide +kernel) rfl
theorem se_X8_comesTo : Cond.selects RX8 yX8_comesTo yX8_comesTo ∈ lwg := lwg_0 41 (by decide +kernel) rfl
theorem mo_X8_copy : MO mX8_copy := ⟨by decide +kernel, rfl, lwg_7 46 rfl rfl, lwg_1 9 (by decide +kernel) rfl, by decide +kernel, by decide +kernel⟩
theorem np_X8_copy : npar mX8_copy 5 := (by decide +kernel : (parseMethodDescriptor yX8_copy.desc).map (fun q => q.parameters.length) = some 5)
theorem im_X8_copy : Cond.instanceMethod yX8_copy ∈ lwg := lwg_7 44 (by decide +kernel) rfl
theorem se_X8_copy : Cond.selects RX8 yX8_copy yX8_copy ∈ lwg := lwg_7 45 (by decide +kernel) rfl
theorem mo_X8_cost : MO mX8_cost := ⟨by decide +kernel, rfl, lwg_6 143 rfl rfl, lwg_1 9 (by decide +kernel) rfl, by decide +kernel, by decide +kernel⟩
theorem np_X8_cost : npar mX8_cost 3 := (by decide +kernel : (parseMethodDescriptor yX8_cost.desc).map (fun q => q.parameters.length) = some 3)
theorem im_X8_cost : Cond.instanceMethod yX8_cost ∈ lwg := lwg_6 141 (by decide +kernel) rfl
theorem se_X8_cost : Cond.selects RX8 yX8_cost yX8_cost ∈ lwg := lwg_6 142 (by decide +kernel) rfl
theorem mo_X8_count : MO mX8_count := ⟨by decide +kernel, rfl, lwg_7 106 rfl rfl, lwg_1 9 (by decide +kernel) rfl, by decide +kernel, by decide +kernel⟩
theorem np_X8_count : npar mX8_count 1 := (by decide +kernel : (parseMethodDescriptor yX8_count.desc).map (fun q => q.parameters.length) = some 1)
theorem im_X8_count : Cond.instanceMethod yX8_count ∈ lwg := lwg_7 104 (by decide +kernel) rfl
theorem se_X8_count : Cond.selects RX8 yX8_count yX8_count ∈ lwg := lwg_7 105 (by decide +kernel) rfl
theorem mo_X8_feed : MO mX8_feed := ⟨by decide +kernel, rfl, lwg_6 221 rfl rfl, lwg_1 9 (by decide +kernel) rfl, by decide +kernel, by decide +kernel⟩
theorem np_X8_feed : npar mX8_feed 2 := (by decide +kernel : (parseMethodDescriptor yX8_feed.desc).map (fun q => q.parameters.length) = some 2)
theorem im_X8_feed : Cond.instanceMethod yX8_feed ∈ lwg := lwg_6 219 (by decide +kernel) rfl
theorem se_X8_feed : Cond.selects RX8 yX8_feed yX8_feed ∈ lwg := lwg_6 220 (by decide +kernel) rfl
theorem mo_X8_finds : MO mX8_finds := ⟨by decide +kernel, rfl, lwg_5 174 rfl rfl, lwg_1 9 (by decide +kernel) rfl, by decide +kernel, by decide +kernel⟩
theorem np_X8_finds : npar mX8_finds 1 := (by decide +kernel : (parseMethodDescriptor yX8_finds.desc).map (fun q => q.parameters.length) = some 1)
theorem im_X8_finds : Cond.instanceMethod yX8_finds ∈ lwg := lwg_5 173 (by decide +kernel) rfl
theorem se_X8_finds : Cond.selects RX8 yX8_finds yX8_finds ∈ lwg := lwg_0 36 (by decide +kernel) rfl
theorem mo_X8_findsGains : MO mX8_findsGains := ⟨by decide +kernel, rfl, lwg_6 184 rfl rfl, lwg_1 9 (by decide +kernel) rfl, by decide +kernel, by decide +kernel⟩
theorem np_X8_findsGains : npar mX8_findsGains 2 := (by decide +kernel : (parseMethodDescriptor yX8_findsGains.desc).map (fun q => q.parameters.length) = some 2)
theorem im_X8_findsGains : Cond.instanceMethod yX8_findsGains ∈ lwg := lwg_6 183 (by decide +kernel) rfl
theorem se_X8_findsGains : Cond.selects RX8 yX8_findsGains yX8_findsGains ∈ lwg := lwg_0 71 (by decide +kernel) rfl
theorem mo_X8_gain : MO mX8_gain := ⟨by decide +kernel, rfl, lwg_6 211 rfl rfl, lwg_1 9 (by decide +kernel) rfl, by decide +kernel, by decide +kernel⟩
theorem np_X8_gain : npar mX8_gain 3 := (by decide +kernel : (parseMethodDescriptor yX8_gain.desc).map (fun q => q.parameters.length) = some 3)
theorem im_X8_gain : Cond.instanceMethod yX8_gain ∈ lwg := lwg_6 209 (by decide +kernel) rfl
theorem se_X8_gain : Cond.selects RX8 yX8_gain yX8_gain ∈ lwg := lwg_6 210 (by decide +kernel) rfl
theorem mo_X8_gets : MO mX8_gets := ⟨by decide +kernel, rfl, lwg_7 86 rfl rfl, lwg_1 9 (by decide +kernel) rfl, by decide +kernel, by decide +kernel⟩
theorem np_X8_gets : npar mX8_gets 3 := (by decide +kernel : (parseMethodDescriptor yX8_gets.desc).map (fun q => q.parameters.length) = some 3)
theorem im_X8_gets : Cond.instanceMethod yX8_gets ∈ lwg := lwg_7 85 (by decide +kernel) rfl
theorem se_X8_gets : Cond.selects RX8 yX8_gets yX8_gets ∈ lwg := lwg_0 91 (by decide +kernel) rfl
theorem mo_X8_go : MO mX8_go := ⟨by decide +kernel, rfl, lwg_6 37 rfl rfl, lwg_1 9 (by decide +kernel) rfl, by decide +kernel, by decide +kernel⟩
theorem np_X8_go : npar mX8_go 1 := (by decide +kernel : (parseMethodDescriptor yX8_go.desc).map (fun q => q.parameters.length) = some 1)
theorem im_X8_go : Cond.instanceMethod yX8_go ∈ lwg := lwg_6 35 (by decide +kernel) rfl
theorem se_X8_go : Cond.selects RX8 yX8_go yX8_go ∈ lwg := lwg_6 36 (by decide +kernel) rfl
theorem mo_X8_goal : MO mX8_goal := ⟨by decide +kernel, rfl, lwg_6 172 rfl rfl, lwg_1 9 (by decide +kernel) rfl, by decide +kernel, by decide +kernel⟩
theorem np_X8_goal : npar mX8_goal 1 := (by decide +kernel : (parseMethodDescriptor yX8_goal.desc).map (fun q => q.parameters.length) = some 1)
theorem im_X8_goal : Cond.instanceMethod yX8_goal ∈ lwg := lwg_6 170 (by decide +kernel) rfl
theorem se_X8_goal : Cond.selects RX8 yX8_goal yX8_goal ∈ lwg := lwg_6 171 (by decide +kernel) rfl
theorem mo_X8_goesBy : MO mX8_goesBy := ⟨by decide +kernel, rfl, lwg_7 74 rfl rfl, lwg_1 9 (by decide +kernel) rfl, by decide +kernel, by decide +kernel⟩
theorem np_X8_goesBy : npar mX8_goesBy 2 := (by decide +kernel : (parseMethodDescriptor yX8_goesBy.desc).map (fun q => q.parameters.length) = some 2)
theorem im_X8_goesBy : Cond.instanceMethod yX8_goesBy ∈ lwg := lwg_7 73 (by decide +kernel) rfl
theorem se_X8_goesBy : Cond.selects RX8 yX8_goesBy yX8_goesBy ∈ lwg := lwg_0 88 (by decide +kernel) rfl
theorem mo_X8_goods : MO mX8_goods := ⟨by decide +kernel, rfl, lwg_6 135 rfl rfl, lwg_1 9 (by decide +kernel) rfl, by decide +kernel, by decide +kernel⟩
theorem np_X8_goods : npar mX8_goods 0 := (by decide +kernel : (parseMethodDescriptor yX8_goods.desc).map (fun q => q.parameters.length) = some 0)
theorem im_X8_goods : Cond.instanceMethod yX8_goods ∈ lwg := lwg_6 134 (by decide +kernel) rfl
theorem se_X8_goods : Cond.selects RX8 yX8_goods yX8_goods ∈ lwg := lwg_0 69 (by decide +kernel) rfl
theorem mo_X8_held : MO mX8_held := ⟨by decide +kernel, rfl, lwg_6 160 rfl rfl, lwg_1 9 (by decide +kernel) rfl, by decide +kernel, by decide +kernel⟩
theorem np_X8_held : npar mX8_held 3 := (by decide +kernel : (parseMethodDescriptor yX8_held.desc).map (fun q => q.parameters.length) = some 3)
theorem im_X8_held : Cond.instanceMethod yX8_held ∈ lwg := lwg_6 158 (by decide +kernel) rfl
theorem se_X8_held : Cond.selects RX8 yX8_held yX8_held ∈ lwg := lwg_6 159 (by decide +kernel) rfl
theorem mo_X8_holds : MO mX8_holds := ⟨by decide +kernel, rfl, lwg_5 203 rfl rfl, lwg_1 9 (by decide +kernel) rfl, by decide +kernel, by decide +kernel⟩
theorem np_X8_holds : npar mX8_holds 2 := (by decide +kernel : (parseMethodDescriptor yX8_holds.desc).map (fun q => q.parameters.length) = some 2)
theorem im_X8_holds : Cond.instanceMethod yX8_holds ∈ lwg := lwg_5 202 (by decide +kernel) rfl
theorem se_X8_holds : Cond.selects RX8 yX8_holds yX8_holds ∈ lwg := lwg_0 40 (by decide +kernel) rfl
theorem mo_X8_image : MO mX8_image := ⟨by decide +kernel, rfl, lwg_7 94 rfl rfl, lwg_1 9 (by decide +kernel) rfl, by decide +kernel, by decide +kernel⟩
theorem np_X8_image : npar mX8_image 0 := (by decide +kernel : (parseMethodDescriptor yX8_image.desc).map (fun q => q.parameters.length) = some 0)
theorem im_X8_image : Cond.instanceMethod yX8_image ∈ lwg := lwg_7 92 (by decide +kernel) rfl
theorem se_X8_image : Cond.selects RX8 yX8_image yX8_image ∈ lwg := lwg_7 93 (by decide +kernel) rfl
theorem mo_X8_in : MO mX8_in := ⟨by decide +kernel, rfl, lwg_5 168 rfl rfl, lwg_1 9 (by decide +kernel) rfl, by decide +kernel, by decide +kernel⟩
theorem np_X8_in : npar mX8_in 3 := (by decide +kernel : (parseMethodDescriptor yX8_in.desc).map (fun q => q.parameters.length) = some 3)
theorem sc_X8_in : Cond.static yX8_in ∈ lwg := lwg_5 167 (by decide +kernel) rfl
theorem mo_X8_isAhead : MO mX8_isAhead := ⟨by decide +kernel, rfl, lwg_6 73 rfl rfl, lwg_1 9 (by decide +kernel) rfl, by decide +kernel, by decide +kernel⟩
theorem np_X8_isAhead : npar mX8_isAhead 1 := (by decide +kernel : (parseMethodDescriptor yX8_isAhead.desc).map (fun q => q.parameters.length) = some 1)
theorem sc_X8_isAhead : Cond.static yX8_isAhead ∈ lwg := lwg_6 72 (by decide +kernel) rfl
theorem mo_X8_isLine : MO mX8_isLine := ⟨by decide +kernel, rfl, lwg_5 223 rfl rfl, lwg_1 9 (by decide +kernel) rfl, by decide +kernel, by decide +kernel⟩
theorem np_X8_isLine : npar mX8_isLine 1 := (by decide +kernel : (parseMethodDescriptor yX8_isLine.desc).map (fun q => q.parameters.length) = some 1)
theorem im_X8_isLine : Cond.instanceMethod yX8_isLine ∈ lwg := lwg_5 222 (by decide +kernel) rfl
theorem se_X8_isLine : Cond.selects RX8 yX8_isLine yX8_isLine ∈ lwg := lwg_0 44 (by decide +kernel) rfl
theorem mo_X8_isSheet : MO mX8_isSheet := ⟨by decide +kernel, rfl, lwg_6 146 rfl rfl, lwg_1 9 (by decide +kernel) rfl, by decide +kernel, by decide +kernel⟩
theorem np_X8_isSheet : npar mX8_isSheet 1 := (by decide +kernel : (parseMethodDescriptor yX8_isSheet.desc).map (fun q => q.parameters.length) = some 1)
theorem sc_X8_isSheet : Cond.static yX8_isSheet ∈ lwg := lwg_6 145 (by decide +kernel) rfl
theorem mo_X8_isStation : MO mX8_isStation := ⟨by decide +kernel, rfl, lwg_5 188 rfl rfl, lwg_1 9 (by decide +kernel) rfl, by decide +kernel, by decide +kernel⟩
theorem np_X8_isStation : npar mX8_isStation 1 := (by decide +kernel : (parseMethodDescriptor yX8_isStation.desc).map (fun q => q.parameters.length) = some 1)
theorem im_X8_isStation : Cond.instanceMethod yX8_isStation ∈ lwg := lwg_5 187 (by decide +kernel) rfl
theorem se_X8_isStation : Cond.selects RX8 yX8_isStation yX8_isStation ∈ lwg := lwg_0 38 (by decide +kernel) rfl
theorem mo_X8_isWord : MO mX8_isWord := ⟨by decide +kernel, rfl, lwg_7 22 rfl rfl, lwg_1 9 (by decide +kernel) rfl, by decide +kernel, by decide +kernel⟩
theorem np_X8_isWord : npar mX8_isWord 1 := (by decide +kernel : (parseMethodDescriptor yX8_isWord.desc).map (fun q => q.parameters.length) = some 1)
theorem im_X8_isWord : Cond.instanceMethod yX8_isWord ∈ lwg := lwg_7 21 (by decide +kernel) rfl
theorem se_X8_isWord : Cond.selects RX8 yX8_isWord yX8_isWord ∈ lwg := lwg_0 82 (by decide +kernel) rfl
theorem mo_X8_isWordFrom : MO mX8_isWordFrom := ⟨by decide +kernel, rfl, lwg_7 6 rfl rfl, lwg_1 9 (by decide +kernel) rfl, by decide +kernel, by decide +kernel⟩
theorem np_X8_isWordFrom : npar mX8_isWordFrom 1 := (by decide +kernel : (parseMethodDescriptor yX8_isWordFrom.desc).map (fun q => q.parameters.length) = some 1)
theorem im_X8_isWordFrom : Cond.instanceMethod yX8_isWordFrom ∈ lwg := lwg_7 5 (by decide +kernel) rfl
theorem se_X8_isWordFrom : Cond.selects RX8 yX8_isWordFrom yX8_isWordFrom ∈ lwg := lwg_0 78 (by decide +kernel) rfl
theorem mo_X8_its : MO mX8_its := ⟨by decide +kernel, rfl, lwg_5 219 rfl rfl, lwg_1 9 (by decide +kernel) rfl, by decide +kernel, by decide +kernel⟩
theorem np_X8_its : npar mX8_its 2 := (by decide +kernel : (parseMethodDescriptor yX8_its.desc).map (fun q => q.parameters.length) = some 2)
theorem im_X8_its : Cond.instanceMethod yX8_its ∈ lwg := lwg_5 217 (by decide +kernel) rfl
theorem se_X8_its : Cond.selects RX8 yX8_its yX8_its ∈ lwg := lwg_5 218 (by decide +kernel) rfl
theorem mo_X8_keeps : MO mX8_keeps := ⟨by decide +kernel, rfl, lwg_7 66 rfl rfl, lwg_1 9 (by decide +kernel) rfl, by decide +kernel, by decide +kernel⟩
theorem np_X8_keeps : npar mX8_keeps 1 := (by decide +kernel : (parseMethodDescriptor yX8_keeps.desc).map (fun q => q.parameters.length) = some 1)
theorem im_X8_keeps : Cond.instanceMethod yX8_keeps ∈ lwg := lwg_7 65 (by decide +kernel) rfl
theorem se_X8_keeps : Cond.selects RX8 yX8_keeps yX8_keeps ∈ lwg := lwg_0 86 (by decide +kernel) rfl
theorem mo_X8_kind : MO mX8_kind := ⟨by decide +kernel, rfl, lwg_6 168 rfl rfl, lwg_1 9 (by decide +kernel) rfl, by decide +kernel, by decide +kernel⟩
theorem np_X8_kind : npar mX8_kind 3 := (by decide +kernel : (parseMethodDescriptor yX8_kind.desc).map (fun q => q.parameters.length) = some 3)
theorem im_X8_kind : Cond.instanceMethod yX8_kind ∈ lwg := lwg_6 166 (by decide +kernel) rfl
theorem se_X8_kind : Cond.selects RX8 yX8_kind yX8_kind ∈ lwg := lwg_6 167 (by decide +kernel) rfl
theorem mo_X8_layOut : MO mX8_layOut := ⟨by decide +kernel, rfl, lwg_6 86 rfl rfl, lwg_1 9 (by decide +kernel) rfl, by decide +kernel, by decide +kernel⟩
theorem np_X8_layOut : npar mX8_layOut 4 := (by decide +kernel : (parseMethodDescriptor yX8_layOut.desc).map (fun q => q.parameters.length) = some 4)
theorem im_X8_layOut : Cond.instanceMethod yX8_layOut ∈ lwg := lwg_6 85 (by decide +kernel) rfl
theorem se_X8_layOut : Cond.selects RX8 yX8_layOut yX8_layOut ∈ lwg := lwg_0 59 (by decide +kernel) rfl
theorem mo_X8_lays : MO mX8_lays := ⟨by decide +kernel, rfl, lwg_7 50 rfl rfl, lwg_1 9 (by decide +kernel) rfl, by decide +kernel, by decide +kernel⟩
theorem np_X8_lays : npar mX8_lays 1 := (by decide +kernel : (parseMethodDescriptor yX8_lays.desc).map (fun q => q.parameters.length) = some 1)
theorem im_X8_lays : Cond.instanceMethod yX8_lays ∈ lwg := lwg_7 48 (by decide +kernel) rfl
theorem se_X8_lays : Cond.selects RX8 yX8_lays yX8_lays ∈ lwg := lwg_7 49 (by decide +kernel) rfl
theorem mo_X8_leftFor : MO mX8_leftFor := ⟨by decide +kernel, rfl, lwg_6 110 rfl rfl, lwg_1 9 (by decide +kernel) rfl, by decide +kernel, by decide +kernel⟩
theorem np_X8_leftFor : npar mX8_leftFor 2 := (by decide +kernel : (parseMethodDescriptor yX8_leftFor.desc).map (fun q => q.parameters.length) = some 2)
theorem im_X8_leftFor : Cond.instanceMethod yX8_leftFor ∈ lwg := lwg_6 109 (by decide +kernel) rfl
theorem se_X8_leftFor : Cond.selects RX8 yX8_leftFor yX8_leftFor ∈ lwg := lwg_0 65 (by decide +kernel) rfl
theorem mo_X8_line : MO mX8_line := ⟨by decide +kernel, rfl, lwg_5 183 rfl rfl, lwg_1 9 (by decide +kernel) rfl, by decide +kernel, by decide +kernel⟩
theorem np_X8_line : npar mX8_line 5 := (by decide +kernel : (parseMethodDescriptor yX8_line.desc).map (fun q => q.parameters.length) = some 5)
theorem im_X8_line : Cond.instanceMethod yX8_line ∈ lwg := lwg_5 181 (by decide +kernel) rfl
theorem se_X8_line : Cond.selects RX8 yX8_line yX8_line ∈ lwg := lwg_5 182 (by decide +kernel) rfl
theorem mo_X8_lose : MO mX8_lose := ⟨by decide +kernel, rfl, lwg_6 152 rfl rfl, lwg_1 9 (by decide +kernel) rfl, by decide +kernel, by decide +kernel⟩
theorem np_X8_lose : npar mX8_lose 2 := (by decide +kernel : (parseMethodDescriptor yX8_lose.desc).map (fun q => q.parameters.length) = some 2)
theorem im_X8_lose : Cond.instanceMethod yX8_lose ∈ lwg := lwg_6 150 (by decide +kernel) rfl
theorem se_X8_lose : Cond.selects RX8 yX8_lose yX8_lose ∈ lwg := lwg_6 151 (by decide +kernel) rfl
theorem mo_X8_losing : MO mX8_losing := ⟨by decide +kernel, rfl, lwg_6 62 rfl rfl, lwg_1 9 (by decide +kernel) rfl, by decide +kernel, by decide +kernel⟩
theorem np_X8_losing : npar mX8_losing 0 := (by decide +kernel : (parseMethodDescriptor yX8_losing.desc).map (fun q => q.parameters.length) = some 0)
theorem im_X8_losing : Cond.instanceMethod yX8_losing ∈ lwg := lwg_6 61 (by decide +kernel) rfl
theorem se_X8_losing : Cond.selects RX8 yX8_losing yX8_losing ∈ lwg := lwg_0 55 (by decide +kernel) rfl
theorem mo_X8_mayBe : MO mX8_mayBe := ⟨by decide +kernel, rfl, lwg_6 9 rfl rfl, lwg_1 9 (by decide +kernel) rfl, by decide +kernel, by decide +kernel⟩
theorem np_X8_mayBe : npar mX8_mayBe 3 := (by decide +kernel : (parseMethodDescriptor yX8_mayBe.desc).map (fun q => q.parameters.length) = some 3)
theorem im_X8_mayBe : Cond.instanceMethod yX8_mayBe ∈ lwg := lwg_6 8 (by decide +kernel) rfl
theorem se_X8_mayBe : Cond.selects RX8 yX8_mayBe yX8_mayBe ∈ lwg := lwg_0 48 (by decide +kernel) rfl
theorem mo_X8_measures : MO mX8_measures := ⟨by decide +kernel, rfl, lwg_6 188 rfl rfl, lwg_1 9 (by decide +kernel) rfl, by decide +kernel, by decide +kernel⟩
theorem np_X8_measures : npar mX8_measures 1 := (by decide +kernel : (parseMethodDescriptor yX8_measures.desc).map (fun q => q.parameters.length) = some 1)
theorem im_X8_measures : Cond.instanceMethod yX8_measures ∈ lwg := lwg_6 187 (by decide +kernel) rfl
theorem se_X8_measures : Cond.selects RX8 yX8_measures yX8_measures ∈ lwg := lwg_0 72 (by decide +kernel) rfl
theorem mo_X8_meets : MO mX8_meets := ⟨by decide +kernel, rfl, lwg_6 98 rfl rfl, lwg_1 9 (by decide +kernel) rfl, by decide +kernel, by decide +kernel⟩
theorem np_X8_meets : npar mX8_meets 2 := (by decide +kernel : (parseMethodDescriptor yX8_meets.desc).map (fun q => q.parameters.length) = some 2)
theorem im_X8_meets : Cond.instanceMethod yX8_meets ∈ lwg := lwg_6 97 (by decide +kernel) rfl
theorem se_X8_meets : Cond.selects RX8 yX8_meets yX8_meets ∈ lwg := lwg_0 62 (by decide +kernel) rfl
theorem mo_X8_most : MO mX8_most := ⟨by decide +kernel, rfl, lwg_6 70 rfl rfl, lwg_1 9 (by decide +kernel) rfl, by decide +kernel, by decide +kernel⟩
theorem np_X8_most : npar mX8_most 2 := (by decide +kernel : (parseMethodDescriptor yX8_most.desc).map (fun q => q.parameters.length) = some 2)
theorem im_X8_most : Cond.instanceMethod yX8_most ∈ lwg := lwg_6 68 (by decide +kernel) rfl
theorem se_X8_most : Cond.selects RX8 yX8_most yX8_most ∈ lwg := lwg_6 69 (by decide +kernel) rfl
theorem mo_X8_mostBy : MO mX8_mostBy := ⟨by decide +kernel, rfl, lwg_6 82 rfl rfl, lwg_1 9 (by decide +kernel) rfl, by decide +kernel, by decide +kernel⟩
theorem np_X8_mostBy : npar mX8_mostBy 6 := (by decide +kernel : (parseMethodDescriptor yX8_mostBy.desc).map (fun q => q.parameters.length) = some 6)
theorem im_X8_mostBy : Cond.instanceMethod yX8_mostBy ∈ lwg := lwg_6 81 (by decide +kernel) rfl
theorem se_X8_mostBy : Cond.selects RX8 yX8_mostBy yX8_mostBy ∈ lwg := lwg_0 58 (by decide +kernel) rfl
theorem mo_X8_mostOf : MO mX8_mostOf := ⟨by decide +kernel, rfl, lwg_6 78 rfl rfl, lwg_1 9 (by decide +kernel) rfl, by decide +kernel, by decide +kernel⟩
theorem np_X8_mostOf : npar mX8_mostOf 2 := (by decide +kernel : (parseMethodDescriptor yX8_mostOf.desc).map (fun q => q.parameters.length) = some 2)
theorem im_X8_mostOf : Cond.instanceMethod yX8_mostOf ∈ lwg := lwg_6 77 (by decide +kernel) rfl
theorem se_X8_mostOf : Cond.selects RX8 yX8_mostOf yX8_mostOf ∈ lwg := lwg_0 57 (by decide +kernel) rfl
theorem mo_X8_moves : MO mX8_moves := ⟨by decide +kernel, rfl, lwg_6 114 rfl rfl, lwg_1 9 (by decide +kernel) rfl, by decide +kernel, by decide +kernel⟩
theorem np_X8_moves : npar mX8_moves 3 := (by decide +kernel : (parseMethodDescriptor yX8_moves.desc).map (fun q => q.parameters.length) = some 3)
theorem im_X8_moves : Cond.instanceMethod yX8_moves ∈ lwg := lwg_6 113 (by decide +kernel) rfl
theorem se_X8_moves : Cond.selects RX8 yX8_moves yX8_moves ∈ lwg := lwg_0 66 (by decide +kernel) rfl
theorem mo_X8_narrow : MO mX8_narrow := ⟨by decide +kernel, rfl, lwg_7 42 rfl rfl, lwg_1 9 (by decide +kernel) rfl, by decide +kernel, by decide +kernel⟩
theorem np_X8_narrow : npar mX8_narrow 2 := (by decide +kernel : (parseMethodDescriptor yX8_narrow.desc).map (fun q => q.parameters.length) = some 2)
theorem sc_X8_narrow : Cond.static yX8_narrow ∈ lwg := lwg_7 41 (by decide +kernel) rfl
theorem mo_X8_near : MO mX8_near := ⟨by decide +kernel, rfl, lwg_6 139 rfl rfl, lwg_1 9 (by decide +kernel) rfl, by decide +kernel, by decide +kernel⟩
theorem np_X8_near : npar mX8_near 3 := (by decide +kernel : (parseMethodDescriptor yX8_near.desc).map (fun q => q.parameters.length) = some 3)
theorem im_X8_near : Cond.instanceMethod yX8_near ∈ lwg := lwg_6 137 (by decide +kernel) rfl
theorem se_X8_near : Cond.selects RX8 yX8_near yX8_near ∈ lwg := lwg_6 138 (by decide +kernel) rfl
theorem mo_X8_nearer : MO mX8_nearer := ⟨by decide +kernel, rfl, lwg_6 193 rfl rfl, lwg_1 9 (by decide +kernel) rfl, by decide +kernel, by decide +kernel⟩
theorem np_X8_nearer : npar mX8_nearer 4 := (by decide +kernel : (parseMethodDescriptor yX8_nearer.desc).map (fun q => q.parameters.length) = some 4)
theorem im_X8_nearer : Cond.instanceMethod yX8_nearer ∈ lwg := lwg_6 192 (by decide +kernel) rfl
theorem se_X8_nearer : Cond.selects RX8 yX8_nearer yX8_nearer ∈ lwg := lwg_0 73 (by decide +kernel) rfl
theorem mo_X8_next : MO mX8_next := ⟨by decide +kernel, rfl, lwg_6 234 rfl rfl, lwg_1 9 (by decide +kernel) rfl, by decide +kernel, by decide +kernel⟩
theorem np_X8_next : npar mX8_next 0 := (by decide +kernel : (parseMethodDescriptor yX8_next.desc).map (fun q => q.parameters.length) = some 0)
theorem im_X8_next : Cond.instanceMethod yX8_next ∈ lwg := lwg_6 233 (by decide +kernel) rfl
theorem se_X8_next : Cond.selects RX8 yX8_next yX8_next ∈ lwg := lwg_0 76 (by decide +kernel) rfl
theorem mo_X8_now : MO mX8_now := ⟨by decide +kernel, rfl, lwg_6 46 rfl rfl, lwg_1 9 (by decide +kernel) rfl, by decide +kernel, by decide +kernel⟩
theorem np_X8_now : npar mX8_now 1 := (by decide +kernel : (parseMethodDescriptor yX8_now.desc).map (fun q => q.parameters.length) = some 1)
theorem im_X8_now : Cond.instanceMethod yX8_now ∈ lwg := lwg_6 44 (by decide +kernel) rfl
theorem se_X8_now : Cond.selects RX8 yX8_now yX8_now ∈ lwg := lwg_6 45 (by decide +kernel) rfl
theorem mo_X8_of : MO mX8_of := ⟨by decide +kernel, rfl, lwg_5 199 rfl rfl, lwg_1 9 (by decide +kernel) rfl, by decide +kernel, by decide +kernel⟩
theorem np_X8_of : npar mX8_of 2 := (by decide +kernel : (parseMethodDescriptor yX8_of.desc).map (fun q => q.parameters.length) = some 2)
theorem im_X8_of : Cond.instanceMethod yX8_of ∈ lwg := lwg_5 197 (by decide +kernel) rfl
theorem se_X8_of : Cond.selects RX8 yX8_of yX8_of ∈ lwg := lwg_5 198 (by decide +kernel) rfl
theorem mo_X8_onWay : MO mX8_onWay := ⟨by decide +kernel, rfl, lwg_5 215 rfl rfl, lwg_1 9 (by decide +kernel) rfl, by decide +kernel, by decide +kernel⟩
theorem np_X8_onWay : npar mX8_onWay 1 := (by decide +kernel : (parseMethodDescriptor yX8_onWay.desc).map (fun q => q.parameters.length) = some 1)
theorem im_X8_onWay : Cond.instanceMethod yX8_onWay ∈ lwg := lwg_5 214 (by decide +kernel) rfl
theorem se_X8_onWay : Cond.selects RX8 yX8_onWay yX8_onWay ∈ lwg := lwg_0 43 (by decide +kernel) rfl
theorem mo_X8_oneTick : MO mX8_oneTick := ⟨by decide +kernel, rfl, lwg_6 42 rfl rfl, lwg_1 9 (by decide +kernel) rfl, by decide +kernel, by decide +kernel⟩
theorem np_X8_oneTick : npar mX8_oneTick 0 := (by decide +kernel : (parseMethodDescriptor yX8_oneTick.desc).map (fun q => q.parameters.length) = some 0)
theorem im_X8_oneTick : Cond.instanceMethod yX8_oneTick ∈ lwg := lwg_6 41 (by decide +kernel) rfl
theorem se_X8_oneTick : Cond.selects RX8 yX8_oneTick yX8_oneTick ∈ lwg := lwg_0 51 (by decide +kernel) rfl
theorem mo_X8_openLines : MO mX8_openLines := ⟨by decide +kernel, rfl, lwg_6 66 rfl rfl, lwg_1 9 (by decide +kernel) rfl, by decide +kernel, by decide +kernel⟩
theorem np_X8_openLines : npar mX8_openLines 0 := (by decide +kernel : (parseMethodDescriptor yX8_openLines.desc).map (fun q => q.parameters.length) = some 0)
theorem im_X8_openLines : Cond.instanceMethod yX8_openLines ∈ lwg := lwg_6 65 (by decide +kernel) rfl
theorem se_X8_openLines : Cond.selects RX8 yX8_openLines yX8_openLines ∈ lwg := lwg_0 56 (by decide +kernel) rfl
theorem mo_X8_ownTill : MO mX8_ownTill := ⟨by decide +kernel, rfl, lwg_6 118 rfl rfl, lwg_1 9 (by decide +kernel) rfl, by decide +kernel, by decide +kernel⟩
theorem np_X8_ownTill : npar mX8_ownTill 2 := (by decide +kernel : (parseMethodDescriptor yX8_ownTill.desc).map (fun q => q.parameters.length) = some 2)
theorem im_X8_ownTill : Cond.instanceMethod yX8_ownTill ∈ lwg := lwg_6 117 (by decide +kernel) rfl
theorem se_X8_ownTill : Cond.selects RX8 yX8_ownTill yX8_ownTill ∈ lwg := lwg_0 67 (by decide +kernel) rfl
theorem mo_X8_perhaps : MO mX8_perhaps := ⟨by decide +kernel, rfl, lwg_7 18 rfl rfl, lwg_1 9 (by decide +kernel) rfl, by decide +kernel, by decide +kernel⟩
theorem np_X8_perhaps : npar mX8_perhaps 4 := (by decide +kernel : (parseMethodDescriptor yX8_perhaps.desc).map (fun q => q.parameters.length) = some 4)
theorem im_X8_perhaps : Cond.instanceMethod yX8_perhaps ∈ lwg := lwg_7 17 (by decide +kernel) rfl
theorem se_X8_perhaps : Cond.selects RX8 yX8_perhaps yX8_perhaps ∈ lwg := lwg_0 81 (by decide +kernel) rfl
theorem mo_X8_plans : MO mX8_plans := ⟨by decide +kernel, rfl, lwg_7 62 rfl rfl, lwg_1 9 (by decide +kernel) rfl, by decide +kernel, by decide +kernel⟩
theorem np_X8_plans : npar mX8_plans 4 := (by decide +kernel : (parseMethodDescriptor yX8_plans.desc).map (fun q => q.parameters.length) = some 4)
theorem im_X8_plans : Cond.instanceMethod yX8_plans ∈ lwg := lwg_7 61 (by decide +kernel) rfl
theorem se_X8_plans : Cond.selects RX8 yX8_plans yX8_plans ∈ lwg := lwg_0 85 (by decide +kernel) rfl
theorem mo_X8_puts : MO mX8_puts := ⟨by decide +kernel, rfl, lwg_7 70 rfl rfl, lwg_1 9 (by decide +kernel) rfl, by decide +kernel, by decide +kernel⟩
theorem np_X8_puts : npar mX8_puts 3 := (by decide +kernel : (parseMethodDescriptor yX8_puts.desc).map (fun q => q.parameters.length) = some 3)
theorem im_X8_puts : Cond.instanceMethod yX8_puts ∈ lwg := lwg_7 69 (by decide +kernel) rfl
theorem se_X8_puts : Cond.selects RX8 yX8_puts yX8_puts ∈ lwg := lwg_0 87 (by decide +kernel) rfl
theorem mo_X8_quick : MO mX8_quick := ⟨by decide +kernel, rfl, lwg_6 122 rfl rfl, lwg_1 9 (by decide +kernel) rfl, by decide +kernel, by decide +kernel⟩
theorem np_X8_quick : npar mX8_quick 2 := (by decide +kernel : (parseMethodDescriptor yX8_quick.desc).map (fun q => q.parameters.length) = some 2)
theorem im_X8_quick : Cond.instanceMethod yX8_quick ∈ lwg := lwg_6 120 (by decide +kernel) rfl
theorem se_X8_quick : Cond.selects RX8 yX8_quick yX8_quick ∈ lwg := lwg_6 121 (by decide +kernel) rfl
theorem mo_X8_quickOf : MO mX8_quickOf := ⟨by decide +kernel, rfl, lwg_6 126 rfl rfl, lwg_1 9 (by decide +kernel) rfl, by decide +kernel, by decide +kernel⟩
theorem np_X8_quickOf : npar mX8_quickOf 2 := (by decide +kernel : (parseMethodDescriptor yX8_quickOf.desc).map (fun q => q.parameters.length) = some 2)
theorem im_X8_quickOf : Cond.instanceMethod yX8_quickOf ∈ lwg := lwg_6 125 (by decide +kernel) rfl
theorem se_X8_quickOf : Cond.selects RX8 yX8_quickOf yX8_quickOf ∈ lwg := lwg_0 68 (by decide +kernel) rfl
theorem mo_X8_rate : MO mX8_rate := ⟨by decide +kernel, rfl, lwg_6 207 rfl rfl, lwg_1 9 (by decide +kernel) rfl, by decide +kernel, by decide +kernel⟩
theorem np_X8_rate : npar mX8_rate 2 := (by decide +kernel : (parseMethodDescriptor yX8_rate.desc).map (fun q => q.parameters.length) = some 2)
theorem im_X8_rate : Cond.instanceMethod yX8_rate ∈ lwg := lwg_6 205 (by decide +kernel) rfl
theorem se_X8_rate : Cond.selects RX8 yX8_rate yX8_rate ∈ lwg := lwg_6 206 (by decide +kernel) rfl
theorem mo_X8_reach : MO mX8_reach := ⟨by decide +kernel, rfl, lwg_6 216 rfl rfl, lwg_1 9 (by decide +kernel) rfl, by decide +kernel, by decide +kernel⟩
theorem np_X8_reach : npar mX8_reach 3 := (by decide +kernel : (parseMethodDescriptor yX8_reach.desc).map (fun q => q.parameters.length) = some 3)
theorem im_X8_reach : Cond.instanceMethod yX8_reach ∈ lwg := lwg_6 214 (by decide +kernel) rfl
theorem se_X8_reach : Cond.selects RX8 yX8_reach yX8_reach ∈ lwg := lwg_6 215 (by decide +kernel) rfl
theorem mo_X8_readsItem : MO mX8_readsItem := ⟨by decide +kernel, rfl, lwg_7 10 rfl rfl, lwg_1 9 (by decide +kernel) rfl, by decide +kernel, by decide +kernel⟩
theorem np_X8_readsItem : npar mX8_readsItem 0 := (by decide +kernel : (parseMethodDescriptor yX8_readsItem.desc).map (fun q => q.parameters.length) = some 0)
theorem im_X8_readsItem : Cond.instanceMethod yX8_readsItem ∈ lwg := lwg_7 9 (by decide +kernel) rfl
theorem se_X8_readsItem : Cond.selects RX8 yX8_readsItem yX8_readsItem ∈ lwg := lwg_0 79 (by decide +kernel) rfl
theorem mo_X8_readsLine : MO mX8_readsLine := ⟨by decide +kernel, rfl, lwg_7 30 rfl rfl, lwg_1 9 (by decide +kernel) rfl, by decide +kernel, by decide +kernel⟩
theorem np_X8_readsLine : npar mX8_readsLine 1 := (by decide +kernel : (parseMethodDescriptor yX8_readsLine.desc).map (fun q => q.parameters.length) = some 1)
theorem im_X8_readsLine : Cond.instanceMethod yX8_readsLine ∈ lwg := lwg_7 29 (by decide +kernel) rfl
theorem se_X8_readsLine : Cond.selects RX8 yX8_readsLine yX8_readsLine ∈ lwg := lwg_0 84 (by decide +kernel) rfl
theorem mo_X8_readsStation : MO mX8_readsStation := ⟨by decide +kernel, rfl, lwg_7 14 rfl rfl, lwg_1 9 (by decide +kernel) rfl, by decide +kernel, by decide +kernel⟩
theorem np_X8_readsStation : npar mX8_readsStation 1 := (by decide +kernel : (parseMethodDescriptor yX8_readsStation.desc).map (fun q => q.parameters.length) = some 1)
theorem im_X8_readsStation : Cond.instanceMethod yX8_readsStation ∈ lwg := lwg_7 13 (by decide +kernel) rfl
theorem se_X8_readsStation : Cond.selects RX8 yX8_readsStation yX8_readsStation ∈ lwg := lwg_0 80 (by decide +kernel) rfl
theorem mo_X8_replay : MO mX8_replay := ⟨by decide +kernel, rfl, lwg_7 58 rfl rfl, lwg_1 9 (by decide +kernel) rfl, by decide +kernel, by decide +kernel⟩
theorem np_X8_replay : npar mX8_replay 3 := (by decide +kernel : (parseMethodDescriptor yX8_replay.desc).map (fun q => q.parameters.length) = some 3)
theorem im_X8_replay : Cond.instanceMethod yX8_replay ∈ lwg := lwg_7 56 (by decide +kernel) rfl
theorem se_X8_replay : Cond.selects RX8 yX8_replay yX8_replay ∈ lwg := lwg_7 57 (by decide +kernel) rfl
theorem mo_X8_room : MO mX8_room := ⟨by decide +kernel, rfl, lwg_5 228 rfl rfl, lwg_1 9 (by decide +kernel) rfl, by decide +kernel, by decide +kernel⟩
theorem np_X8_room : npar mX8_room 2 := (by decide +kernel : (parseMethodDescriptor yX8_room.desc).map (fun q => q.parameters.length) = some 2)
theorem im_X8_room : Cond.instanceMethod yX8_room ∈ lwg := lwg_5 227 (by decide +kernel) rfl
theorem se_X8_room : Cond.selects RX8 yX8_room yX8_room ∈ lwg := lwg_0 45 (by decide +kernel) rfl
theorem mo_X8_roomBy : MO mX8_roomBy := ⟨by decide +kernel, rfl, lwg_5 232 rfl rfl, lwg_1 9 (by decide +kernel) rfl, by decide +kernel, by decide +kernel⟩
theorem np_X8_roomBy : npar mX8_roomBy 3 := (by decide +kernel : (parseMethodDescriptor yX8_roomBy.desc).map (fun q => q.parameters.length) = some 3)
theorem im_X8_roomBy : Cond.instanceMethod yX8_roomBy ∈ lwg := lwg_5 231 (by decide +kernel) rfl
theorem se_X8_roomBy : Cond.selects RX8 yX8_roomBy yX8_roomBy ∈ lwg := lwg_0 46 (by decide +kernel) rfl
theorem mo_X8_roomOfAll : MO mX8_roomOfAll := ⟨by decide +kernel, rfl, lwg_6 58 rfl rfl, lwg_1 9 (by decide +kernel) rfl, by decide +kernel, by decide +kernel⟩
theorem np_X8_roomOfAll : npar mX8_roomOfAll 0 := (by decide +kernel : (parseMethodDescriptor yX8_roomOfAll.desc).map (fun q => q.parameters.length) = some 0)
theorem im_X8_roomOfAll : Cond.instanceMethod yX8_roomOfAll ∈ lwg := lwg_6 57 (by decide +kernel) rfl
theorem se_X8_roomOfAll : Cond.selects RX8 yX8_roomOfAll yX8_roomOfAll ∈ lwg := lwg_0 54 (by decide +kernel) rfl
theorem mo_X8_run : MO mX8_run := ⟨by decide +kernel, rfl, lwg_7 90 rfl rfl, lwg_1 9 (by decide +kernel) rfl, by decide +kernel, by decide +kernel⟩
theorem np_X8_run : npar mX8_run 3 := (by decide +kernel : (parseMethodDescriptor yX8_run.desc).map (fun q => q.parameters.length) = some 3)
theorem im_X8_run : Cond.instanceMethod yX8_run ∈ lwg := lwg_7 88 (by decide +kernel) rfl
theorem se_X8_run : Cond.selects RX8 yX8_run yX8_run ∈ lwg := lwg_7 89 (by decide +kernel) rfl
theorem mo_X8_searches : MO mX8_searches := ⟨by decide +kernel, rfl, lwg_6 94 rfl rfl, lwg_1 9 (by decide +kernel) rfl, by decide +kernel, by decide +kernel⟩
theorem np_X8_searches : npar mX8_searches 2 := (by decide +kernel : (parseMethodDescriptor yX8_searches.desc).map (fun q => q.parameters.length) = some 2)
theorem im_X8_searches : Cond.instanceMethod yX8_searches ∈ lwg := lwg_6 93 (by decide +kernel) rfl
theorem se_X8_searches : Cond.selects RX8 yX8_searches yX8_searches ∈ lwg := lwg_0 61 (by decide +kernel) rfl
theorem mo_X8_send : MO mX8_send := ⟨by decide +kernel, rfl, lwg_6 23 rfl rfl, lwg_1 9 (by decide +kernel) rfl, by decide +kernel, by decide +kernel⟩
theorem np_X8_send : npar mX8_send 2 := (by decide +kernel : (parseMethodDescriptor yX8_send.desc).map (fun q => q.parameters.length) = some 2)
theorem im_X8_send : Cond.instanceMethod yX8_send ∈ lwg := lwg_6 21 (by decide +kernel) rfl
theorem se_X8_send : Cond.selects RX8 yX8_send yX8_send ∈ lwg := lwg_6 22 (by decide +kernel) rfl
theorem mo_X8_sends : MO mX8_sends := ⟨by decide +kernel, rfl, lwg_6 33 rfl rfl, lwg_1 9 (by decide +kernel) rfl, by decide +kernel, by decide +kernel⟩
theorem np_X8_sends : npar mX8_sends 2 := (by decide +kernel : (parseMethodDescriptor yX8_sends.desc).map (fun q => q.parameters.length) = some 2)
theorem im_X8_sends : Cond.instanceMethod yX8_sends ∈ lwg := lwg_6 32 (by decide +kernel) rfl
theorem se_X8_sends : Cond.selects RX8 yX8_sends yX8_sends ∈ lwg := lwg_0 50 (by decide +kernel) rfl
theorem mo_X8_sendsAll : MO mX8_sendsAll := ⟨by decide +kernel, rfl, lwg_7 78 rfl rfl, lwg_1 9 (by decide +kernel) rfl, by decide +kernel, by decide +kernel⟩
theorem np_X8_sendsAll : npar mX8_sendsAll 2 := (by decide +kernel : (parseMethodDescriptor yX8_sendsAll.desc).map (fun q => q.parameters.length) = some 2)
theorem im_X8_sendsAll : Cond.instanceMethod yX8_sendsAll ∈ lwg := lwg_7 77 (by decide +kernel) rfl
theorem se_X8_sendsAll : Cond.selects RX8 yX8_sendsAll yX8_sendsAll ∈ lwg := lwg_0 89 (by decide +kernel) rfl
theorem mo_X8_set : MO mX8_set := ⟨by decide +kernel, rfl, lwg_6 0 rfl rfl, lwg_1 9 (by decide +kernel) rfl, by decide +kernel, by decide +kernel⟩
theorem np_X8_set : npar mX8_set 3 := (by decide +kernel : (parseMethodDescriptor yX8_set.desc).map (fun q => q.parameters.length) = some 3)
theorem im_X8_set : Cond.instanceMethod yX8_set ∈ lwg := lwg_5 238 (by decide +kernel) rfl
theorem se_X8_set : Cond.selects RX8 yX8_set yX8_set ∈ lwg := lwg_5 239 (by decide +kernel) rfl
theorem mo_X8_sheet : MO mX8_sheet := ⟨by decide +kernel, rfl, lwg_7 34 rfl rfl, lwg_1 9 (by decide +kernel) rfl, by decide +kernel, by decide +kernel⟩
theorem np_X8_sheet : npar mX8_sheet 3 := (by decide +kernel : (parseMethodDescriptor yX8_sheet.desc).map (fun q => q.parameters.length) = some 3)
theorem im_X8_sheet : Cond.instanceMethod yX8_sheet ∈ lwg := lwg_7 32 (by decide +kernel) rfl
theorem se_X8_sheet : Cond.selects RX8 yX8_sheet yX8_sheet ∈ lwg := lwg_7 33 (by decide +kernel) rfl
theorem mo_X8_spreads : MO mX8_spreads := ⟨by decide +kernel, rfl, lwg_6 102 rfl rfl, lwg_1 9 (by decide +kernel) rfl, by decide +kernel, by decide +kernel⟩
theorem np_X8_spreads : npar mX8_spreads 3 := (by decide +kernel : (parseMethodDescriptor yX8_spreads.desc).map (fun q => q.parameters.length) = some 3)
theorem im_X8_spreads : Cond.instanceMethod yX8_spreads ∈ lwg := lwg_6 101 (by decide +kernel) rfl
theorem se_X8_spreads : Cond.selects RX8 yX8_spreads yX8_spreads ∈ lwg := lwg_0 63 (by decide +kernel) rfl
theorem mo_X8_stands : MO mX8_stands := ⟨by decide +kernel, rfl, lwg_6 19 rfl rfl, lwg_1 9 (by decide +kernel) rfl, by decide +kernel, by decide +kernel⟩
theorem np_X8_stands : npar mX8_stands 2 := (by decide +kernel : (parseMethodDescriptor yX8_stands.desc).map (fun q => q.parameters.length) = some 2)
theorem im_X8_stands : Cond.instanceMethod yX8_stands ∈ lwg := lwg_6 17 (by decide +kernel) rfl
theorem se_X8_stands : Cond.selects RX8 yX8_stands yX8_stands ∈ lwg := lwg_6 18 (by decide +kernel) rfl
theorem mo_X8_station : MO mX8_station := ⟨by decide +kernel, rfl, lwg_5 164 rfl rfl, lwg_1 9 (by decide +kernel) rfl, by decide +kernel, by decide +kernel⟩
theorem np_X8_station : npar mX8_station 2 := (by decide +kernel : (parseMethodDescriptor yX8_station.desc).map (fun q => q.parameters.length) = some 2)
theorem im_X8_station : Cond.instanceMethod yX8_station ∈ lwg := lwg_5 162 (by decide +kernel) rfl
theorem se_X8_station : Cond.selects RX8 yX8_station yX8_station ∈ lwg := lwg_5 163 (by decide +kernel) rfl
theorem mo_X8_status : MO mX8_status := ⟨by decide +kernel, rfl, lwg_7 110 rfl rfl, lwg_1 9 (by decide +kernel) rfl, by decide +kernel, by decide +kernel⟩
theorem np_X8_status : npar mX8_status 1 := (by decide +kernel : (parseMethodDescriptor yX8_status.desc).map (fun q => q.parameters.length) = some 1)
theorem im_X8_status : Cond.instanceMethod yX8_status ∈ lwg := lwg_7 108 (by decide +kernel) rfl
theorem se_X8_status : Cond.selects RX8 yX8_status yX8_status ∈ lwg := lwg_7 109 (by decide +kernel) rfl
theorem mo_X8_steady : MO mX8_steady := ⟨by decide +kernel, rfl, lwg_6 176 rfl rfl, lwg_1 9 (by decide +kernel) rfl, by decide +kernel, by decide +kernel⟩
theorem np_X8_steady : npar mX8_steady 3 := (by decide +kernel : (parseMethodDescriptor yX8_steady.desc).map (fun q => q.parameters.length) = some 3)
theorem im_X8_steady : Cond.instanceMethod yX8_steady ∈ lwg := lwg_6 174 (by decide +kernel) rfl
theorem se_X8_steady : Cond.selects RX8 yX8_steady yX8_steady ∈ lwg := lwg_6 175 (by decide +kernel) rfl
theorem mo_X8_steadyBehind : MO mX8_steadyBehind := ⟨by decide +kernel, rfl, lwg_6 201 rfl rfl, lwg_1 9 (by decide +kernel) rfl, by decide +kernel, by decide +kernel⟩
theorem np_X8_steadyBehind : npar mX8_steadyBehind 1 := (by decide +kernel : (parseMethodDescriptor yX8_steadyBehind.desc).map (fun q => q.parameters.length) = some 1)
theorem im_X8_steadyBehind : Cond.instanceMethod yX8_steadyBehind ∈ lwg := lwg_6 200 (by decide +kernel) rfl
theorem se_X8_steadyBehind : Cond.selects RX8 yX8_steadyBehind yX8_steadyBehind ∈ lwg := lwg_0 75 (by decide +kernel) rfl
theorem mo_X8_stepBack : MO mX8_stepBack := ⟨by decide +kernel, rfl, lwg_6 197 rfl rfl, lwg_1 9 (by decide +kernel) rfl, by decide +kernel, by decide +kernel⟩
theorem np_X8_stepBack : npar mX8_stepBack 1 := (by decide +kernel : (parseMethodDescriptor yX8_stepBack.desc).map (fun q => q.parameters.length) = some 1)
theorem im_X8_stepBack : Cond.instanceMethod yX8_stepBack ∈ lwg := lwg_6 196 (by decide +kernel) rfl
theorem se_X8_stepBack : Cond.selects RX8 yX8_stepBack yX8_stepBack ∈ lwg := lwg_0 74 (by decide +kernel) rfl
theorem mo_X8_sumOf : MO mX8_sumOf := ⟨by decide +kernel, rfl, lwg_6 50 rfl rfl, lwg_1 9 (by decide +kernel) rfl, by decide +kernel, by decide +kernel⟩
theorem np_X8_sumOf : npar mX8_sumOf 2 := (by decide +kernel : (parseMethodDescriptor yX8_sumOf.desc).map (fun q => q.parameters.length) = some 2)
theorem im_X8_sumOf : Cond.instanceMethod yX8_sumOf ∈ lwg := lwg_6 49 (by decide +kernel) rfl
theorem se_X8_sumOf : Cond.selects RX8 yX8_sumOf yX8_sumOf ∈ lwg := lwg_0 52 (by decide +kernel) rfl
theorem mo_X8_takes : MO mX8_takes := ⟨by decide +kernel, rfl, lwg_5 236 rfl rfl, lwg_1 9 (by decide +kernel) rfl, by decide +kernel, by decide +kernel⟩
theorem np_X8_takes : npar mX8_takes 1 := (by decide +kernel : (parseMethodDescriptor yX8_takes.desc).map (fun q => q.parameters.length) = some 1)
theorem im_X8_takes : Cond.instanceMethod yX8_takes ∈ lwg := lwg_5 235 (by decide +kernel) rfl
theorem se_X8_takes : Cond.selects RX8 yX8_takes yX8_takes ∈ lwg := lwg_0 47 (by decide +kernel) rfl
theorem mo_X8_takesNumber : MO mX8_takesNumber := ⟨by decide +kernel, rfl, lwg_7 26 rfl rfl, lwg_1 9 (by decide +kernel) rfl, by decide +kernel, by decide +kernel⟩
theorem np_X8_takesNumber : npar mX8_takesNumber 2 := (by decide +kernel : (parseMethodDescriptor yX8_takesNumber.desc).map (fun q => q.parameters.length) = some 2)
theorem im_X8_takesNumber : Cond.instanceMethod yX8_takesNumber ∈ lwg := lwg_7 25 (by decide +kernel) rfl
theorem se_X8_takesNumber : Cond.selects RX8 yX8_takesNumber yX8_takesNumber ∈ lwg := lwg_0 83 (by decide +kernel) rfl
theorem mo_X8_tear : MO mX8_tear := ⟨by decide +kernel, rfl, lwg_7 102 rfl rfl, lwg_1 9 (by decide +kernel) rfl, by decide +kernel, by decide +kernel⟩
theorem np_X8_tear : npar mX8_tear 0 := (by decide +kernel : (parseMethodDescriptor yX8_tear.desc).map (fun q => q.parameters.length) = some 0)
theorem im_X8_tear : Cond.instanceMethod yX8_tear ∈ lwg := lwg_7 100 (by decide +kernel) rfl
theorem se_X8_tear : Cond.selects RX8 yX8_tear yX8_tear ∈ lwg := lwg_7 101 (by decide +kernel) rfl
theorem mo_X8_text : MO mX8_text := ⟨by decide +kernel, rfl, lwg_6 230 rfl rfl, lwg_1 9 (by decide +kernel) rfl, by decide +kernel, by decide +kernel⟩
theorem np_X8_text : npar mX8_text 0 := (by decide +kernel : (parseMethodDescriptor yX8_text.desc).map (fun q => q.parameters.length) = some 0)
theorem im_X8_text : Cond.instanceMethod yX8_text ∈ lwg := lwg_6 228 (by decide +kernel) rfl
theorem se_X8_text : Cond.selects RX8 yX8_text yX8_text ∈ lwg := lwg_6 229 (by decide +kernel) rfl
theorem mo_X8_undo : MO mX8_undo := ⟨by decide +kernel, rfl, lwg_7 98 rfl rfl, lwg_1 9 (by decide +kernel) rfl, by decide +kernel, by decide +kernel⟩
theorem np_X8_undo : npar mX8_undo 0 := (by decide +kernel : (parseMethodDescriptor yX8_undo.desc).map (fun q => q.parameters.length) = some 0)
theorem im_X8_undo : Cond.instanceMethod yX8_undo ∈ lwg := lwg_7 96 (by decide +kernel) rfl
theorem se_X8_undo : Cond.selects RX8 yX8_undo yX8_undo ∈ lwg := lwg_7 97 (by decide +kernel) rfl
theorem mo_X8_widen : MO mX8_widen := ⟨by decide +kernel, rfl, lwg_6 156 rfl rfl, lwg_1 9 (by decide +kernel) rfl, by decide +kernel, by decide +kernel⟩
theorem np_X8_widen : npar mX8_widen 2 := (by decide +kernel : (parseMethodDescriptor yX8_widen.desc).map (fun q => q.parameters.length) = some 2)
theorem im_X8_widen : Cond.instanceMethod yX8_widen ∈ lwg := lwg_6 154 (by decide +kernel) rfl
theorem se_X8_widen : Cond.selects RX8 yX8_widen yX8_widen ∈ lwg := lwg_6 155 (by decide +kernel) rfl
theorem mo_X8_wipe : MO mX8_wipe := ⟨by decide +kernel, rfl, lwg_6 226 rfl rfl, lwg_1 9 (by decide +kernel) rfl, by decide +kernel, by decide +kernel⟩
theorem np_X8_wipe : npar mX8_wipe 0 := (by decide +kernel : (parseMethodDescriptor yX8_wipe.desc).map (fun q => q.parameters.length) = some 0)
theorem im_X8_wipe : Cond.instanceMethod yX8_wipe ∈ lwg := lwg_6 224 (by decide +kernel) rfl
theorem se_X8_wipe : Cond.selects RX8 yX8_wipe yX8_wipe ∈ lwg := lwg_6 225 (by decide +kernel) rfl
theorem mo_X8_write : MO mX8_write := ⟨by decide +kernel, rfl, lwg_7 39 rfl rfl, lwg_1 9 (by decide +kernel) rfl, by decide +kernel, by decide +kernel⟩
theorem np_X8_write : npar mX8_write 3 := (by decide +kernel : (parseMethodDescriptor yX8_write.desc).map (fun q => q.parameters.length) = some 3)
theorem im_X8_write : Cond.instanceMethod yX8_write ∈ lwg := lwg_7 37 (by decide +kernel) rfl
theorem se_X8_write : Cond.selects RX8 yX8_write yX8_write ∈ lwg := lwg_7 38 (by decide +kernel) rfl
theorem st_max : Cond.static Lib.Math.max.name ∈ lwg := lwg_2 158 (by decide +kernel) rfl
theorem st_min : Cond.static Lib.Math.min.name ∈ lwg := lwg_3 66 (by decide +kernel) rfl
theorem cd_max : Cond.code Lib.Math.max.name Lib.Math.max.code 2 (some .int) ∈ lwg := lwg_2 159 (by decide +kernel) rfl
theorem cd_min : Cond.code Lib.Math.min.name Lib.Math.min.code 2 (some .int) ∈ lwg := lwg_3 67 (by decide +kernel) rfl
theorem in_Math : Cond.initialized "java/lang/Math" ∈ lwg := lwg_1 11 (by decide +kernel) rfl
theorem in_Sys : Cond.initialized "java/lang/System" ∈ lwg := lwg_1 12 (by decide +kernel) rfl
theorem st_cpy : Cond.static arraycopyName ∈ lwg := lwg_3 79 (by decide +kernel) rfl
theorem nv_cpy : Cond.native arraycopyName ∈ lwg := lwg_3 80 (by decide +kernel) rfl
