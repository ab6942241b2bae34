theorem tbk1 (i : Nat) {w : Cond} (h : tables_1_1[i]? = some w) (g : goodWord w = true) : w ∈ tbG := tb_mem (List.mem_append_right _ (List.mem_append_left _ (List.mem_of_getElem? h))) g
theorem tbk2 (i : Nat) {w : Cond} (h : tables_1_2[i]? = some w) (g : goodWord w = true) : w ∈ tbG := tb_mem (List.mem_append_right _ (List.mem_append_right _ (List.mem_append_left _ (List.mem_of_getElem? h)))) g
theorem tbk3 (i : Nat) {w : Cond} (h : tables_1_3[i]? = some w) (g : goodWord w = true) : w ∈ tbG := tb_mem (List.mem_append_right _ (List.mem_append_right _ (List.mem_append_right _ (List.mem_append_left _ (List.mem_of_getElem? h))))) g
theorem tbk4 (i : Nat) {w : Cond} (h : tables_1_4[i]? = some w) (g : goodWord w = true) : w ∈ tbG := tb_mem (List.mem_append_right _ (List.mem_append_right _ (List.mem_append_right _ (List.mem_append_right _ (List.mem_append_left _ (List.mem_of_getElem? h)))))) g
theorem tbk5 (i : Nat) {w : Cond} (h : tables_1_5[i]? = some w) (g : goodWord w = true) : w ∈ tbG := tb_mem (List.mem_append_right _ (List.mem_append_right _ (List.mem_append_right _ (List.mem_append_right _ (List.mem_append_right _ (List.mem_append_left _ (List.mem_of_getElem? h))))))) g
theorem tbk6 (i : Nat) {w : Cond} (h : tables_1_6[i]? = some w) (g : goodWord w = true) : w ∈ tbG := tb_mem (List.mem_append_right _ (List.mem_append_right _ (List.mem_append_right _ (List.mem_append_right _ (List.mem_append_right _ (List.mem_append_right _ (List.mem_append_left _ (List.mem_of_getElem? h)))))))) g
theorem tbk7 (i : Nat) {w : Cond} (h : tables_1_7[i]? = some w) (g : goodWord w = true) : w ∈ tbG := tb_mem (List.mem_append_right _ (List.mem_append_right _ (List.mem_append_right _ (List.mem_append_right _ (List.mem_append_right _ (List.mem_append_right _ (List.mem_append_right _ (List.mem_of_getElem? h)))))))) g
abbrev MJ7_fill_53178 : MT := (yJ7_fill_53178, cJ7_fill_53178, 4, none, 0, 0)
abbrev MX3_gatesTold : MT := (yX3_gatesTold, cX3_gatesTold, 1, (some .int), 0, 0)
abbrev MX3_from : MT := (yX3_from, cX3_from, 2, (some .int), 0, 0)
abbrev MX3_to : MT := (yX3_to, cX3_to, 2, (some .int), 0, 0)
abbrev MX0_link : MT := (yX0_link, cX0_link, 3, none, 0, 0)
abbrev MX0_layOut : MT := (yX0_layOut, cX0_layOut, 4, none, 1, 23)
abbrev MX0_spread : MT := (yX0_spread, cX0_spread, 9, none, 1, 23)
abbrev MX0_measure : MT := (yX0_measure, cX0_measure, 4, none, 2, 51)
abbrev MX0_measureLinked : MT := (yX0_measureLinked, cX0_measureLinked, 6, none, 2, 51)
abbrev MX10_isTown : MT := (yX10_isTown, cX10_isTown, 1, (some .boolean), 0, 0)
abbrev MX0_measureFrom : MT := (yX0_measureFrom, cX0_measureFrom, 4, none, 2, 51)
abbrev MX0_between : MT := (yX0_between, cX0_between, 3, (some .int), 1, 20)
abbrev MX0_reachedFrom : MT := (yX0_reachedFrom, cX0_reachedFrom, 4, (some .int), 2, 42)
abbrev MX0_pairsUnlike : MT := (yX0_pairsUnlike, cX0_pairsUnlike, 5, (some .int), 2, 42)
abbrev MJ9_abs_0f7a4 : MT := (yJ9_abs_0f7a4, cJ9_abs_0f7a4, 1, (some .int), 0, 0)
abbrev MJ9_max_7cf53 : MT := (yJ9_max_7cf53, cJ9_max_7cf53, 2, (some .int), 0, 0)
abbrev MX0_mostUnlike : MT := (yX0_mostUnlike, cX0_mostUnlike, 7, (some .int), 2, 42)
abbrev MX3_openLanes : MT := (yX3_openLanes, cX3_openLanes, 1, (some .int), 0, 0)
abbrev MX1_setOut : MT := (yX1_setOut, cX1_setOut, 4, none, 3, 74)
abbrev MX3_roomTold : MT := (yX3_roomTold, cX3_roomTold, 1, (some .int), 0, 0)
abbrev MX1_reached : MT := (yX1_reached, cX1_reached, 3, (some .int), 0, 0)
abbrev MX3_letters : MT := (yX3_letters, cX3_letters, 1, (some .int), 0, 0)
abbrev MX3_isOpen : MT := (yX3_isOpen, cX3_isOpen, 2, (some .boolean), 0, 0)
abbrev MX3_isWatched : MT := (yX3_isWatched, cX3_isWatched, 2, (some .boolean), 0, 0)
abbrev MJ9_min_7cf53 : MT := (yJ9_min_7cf53, cJ9_min_7cf53, 2, (some .int), 0, 0)
abbrev MX1_comeNearer : MT := (yX1_comeNearer, cX1_comeNearer, 5, (some .boolean), 2, 42)
abbrev MX1_allowOneMore : MT := (yX1_allowOneMore, cX1_allowOneMore, 4, (some .boolean), 3, 66)
abbrev MX1_fullest : MT := (yX1_fullest, cX1_fullest, 4, (some .int), 4, 97)
abbrev MX1_homely : MT := (yX1_homely, cX1_homely, 4, (some .int), 4, 97)
abbrev MX1_stepsTo : MT := (yX1_stepsTo, cX1_stepsTo, 4, (some .int), 0, 0)
abbrev MX2_onPaper : MT := (yX2_onPaper, cX2_onPaper, 1, (some (.object "StampsCancel$Paper")), 0, 0)
abbrev MX5_size : MT := (yX5_size, cX5_size, 1, (some .int), 0, 0)
abbrev MX2_begin : MT := (yX2_begin, cX2_begin, 2, none, 1, 20)
abbrev MX8_size : MT := (yX8_size, cX8_size, 1, (some .int), 0, 0)
abbrev MX8_at : MT := (yX8_at, cX8_at, 2, (some .int), 0, 0)
abbrev MX3_letterOf : MT := (yX3_letterOf, cX3_letterOf, 2, (some .int), 0, 0)
abbrev MX5_strikes : MT := (yX5_strikes, cX5_strikes, 2, (some .boolean), 0, 0)
abbrev MX2_mayPass : MT := (yX2_mayPass, cX2_mayPass, 2, (some .boolean), 1, 21)
abbrev MX5_stamp : MT := (yX5_stamp, cX5_stamp, 2, none, 1, 21)
abbrev MX2_pass : MT := (yX2_pass, cX2_pass, 2, none, 2, 42)
abbrev MX2_follow : MT := (yX2_follow, cX2_follow, 4, none, 3, 63)
abbrev MX2_verdict : MT := (yX2_verdict, cX2_verdict, 2, (some .int), 1, 20)
abbrev MX3_forget : MT := (yX3_forget, cX3_forget, 1, none, 0, 0)
abbrev MX3_isFigure : MT := (yX3_isFigure, cX3_isFigure, 1, (some .boolean), 0, 0)
abbrev MX3_takeRoom : MT := (yX3_takeRoom, cX3_takeRoom, 6, (some .int), 1, 21)
abbrev MX3_isTownByte : MT := (yX3_isTownByte, cX3_isTownByte, 1, (some .boolean), 0, 0)
abbrev MX3_takeGate : MT := (yX3_takeGate, cX3_takeGate, 4, (some .int), 1, 21)
abbrev MX3_faultOf : MT := (yX3_faultOf, cX3_faultOf, 5, (some .int), 2, 46)
abbrev MX3_learn : MT := (yX3_learn, cX3_learn, 2, none, 3, 70)
abbrev MX3_close : MT := (yX3_close, cX3_close, 3, (some .int), 0, 0)
abbrev MX3_faultPlace : MT := (yX3_faultPlace, cX3_faultPlace, 1, (some .int), 0, 0)
abbrev MJ6_bitCount_0f7a4 : MT := (yJ6_bitCount_0f7a4, cJ6_bitCount_0f7a4, 1, (some .int), 0, 0)
abbrev MX3_gatesWatched : MT := (yX3_gatesWatched, cX3_gatesWatched, 1, (some .int), 1, 20)
abbrev MX3_hasGate : MT := (yX3_hasGate, cX3_hasGate, 2, (some .boolean), 0, 0)
abbrev MX3_openGates : MT := (yX3_openGates, cX3_openGates, 1, (some .int), 0, 0)
abbrev MX4_isFull : MT := (yX4_isFull, cX4_isFull, 1, (some .boolean), 0, 0)
abbrev MX4_size : MT := (yX4_size, cX4_size, 1, (some .int), 0, 0)
abbrev MX5_at : MT := (yX5_at, cX5_at, 2, (some .int), 0, 0)
abbrev MX4_append : MT := (yX4_append, cX4_append, 4, none, 1, 21)
abbrev MX4_dropLast : MT := (yX4_dropLast, cX4_dropLast, 1, none, 1, 21)
abbrev MX4_goodOnes : MT := (yX4_goodOnes, cX4_goodOnes, 3, (some .int), 0, 0)
abbrev MX4_stampsOf : MT := (yX4_stampsOf, cX4_stampsOf, 2, (some .int), 0, 0)
abbrev MX4_stampAt : MT := (yX4_stampAt, cX4_stampAt, 4, (some .int), 0, 0)
abbrev MX4_unlikeAt : MT := (yX4_unlikeAt, cX4_unlikeAt, 5, (some .int), 1, 23)
abbrev MX4_letsBy : MT := (yX4_letsBy, cX4_letsBy, 4, (some .boolean), 2, 47)
abbrev MX4_unlikeOf : MT := (yX4_unlikeOf, cX4_unlikeOf, 5, (some .int), 1, 23)
abbrev MX4_isLetBy : MT := (yX4_isLetBy, cX4_isLetBy, 4, (some .boolean), 2, 47)
abbrev MX4_slipping : MT := (yX4_slipping, cX4_slipping, 4, (some .int), 3, 70)
abbrev MX4_gatherUnlike : MT := (yX4_gatherUnlike, cX4_gatherUnlike, 4, (some .int), 2, 47)
abbrev MX4_partsAll : MT := (yX4_partsAll, cX4_partsAll, 4, (some .boolean), 0, 0)
abbrev MX4_fewestPlaces : MT := (yX4_fewestPlaces, cX4_fewestPlaces, 7, (some .int), 3, 70)
abbrev MX5_empty : MT := (yX5_empty, cX5_empty, 1, none, 0, 0)
abbrev MX5_alike : MT := (yX5_alike, cX5_alike, 4, (some .int), 1, 21)
abbrev MX6_need : MT := (yX6_need, cX6_need, 2, none, 0, 0)
abbrev MX6_plan : MT := (yX6_plan, cX6_plan, 5, none, 3, 74)
abbrev MX6_needAt : MT := (yX6_needAt, cX6_needAt, 2, (some .int), 0, 0)
abbrev MX6_goal : MT := (yX6_goal, cX6_goal, 3, (some .int), 1, 21)
abbrev MX6_origin : MT := (yX6_origin, cX6_origin, 3, (some .int), 1, 21)
abbrev MX6_gatesBetween : MT := (yX6_gatesBetween, cX6_gatesBetween, 6, (some .int), 2, 43)
abbrev MJ7_fill_d0a16 : MT := (yJ7_fill_d0a16, cJ7_fill_d0a16, 5, none, 0, 0)
abbrev MX6_isLane : MT := (yX6_isLane, cX6_isLane, 2, (some .boolean), 1, 21)
abbrev MX6_stepNearer : MT := (yX6_stepNearer, cX6_stepNearer, 6, none, 2, 42)
abbrev MX6_laneWays : MT := (yX6_laneWays, cX6_laneWays, 4, (some .long), 3, 67)
abbrev MX6_ways : MT := (yX6_ways, cX6_ways, 6, (some .long), 4, 90)
abbrev MX6_leastNearer : MT := (yX6_leastNearer, cX6_leastNearer, 6, (some .int), 2, 42)
abbrev MX6_leastLaneLetter : MT := (yX6_leastLaneLetter, cX6_leastLaneLetter, 7, (some .int), 3, 67)
abbrev MX6_leastLetter : MT := (yX6_leastLetter, cX6_leastLetter, 9, (some .int), 4, 93)
abbrev MX6_isChained : MT := (yX6_isChained, cX6_isChained, 1, (some .boolean), 3, 68)
abbrev MX6_starts : MT := (yX6_starts, cX6_starts, 1, (some .int), 4, 88)
abbrev MX6_ends : MT := (yX6_ends, cX6_ends, 1, (some .int), 4, 88)
abbrev MX7_find : MT := (yX7_find, cX7_find, 2, (some .int), 0, 0)
abbrev MX7_latestFinding : MT := (yX7_latestFinding, cX7_latestFinding, 1, (some .int), 0, 0)
abbrev MX7_isLost : MT := (yX7_isLost, cX7_isLost, 2, (some .boolean), 0, 0)
abbrev MX7_size : MT := (yX7_size, cX7_size, 2, (some .int), 0, 0)
abbrev MX7_make : MT := (yX7_make, cX7_make, 4, none, 1, 23)
abbrev MX7_drop : MT := (yX7_drop, cX7_drop, 2, none, 0, 0)
abbrev MX7_findingAt : MT := (yX7_findingAt, cX7_findingAt, 4, (some .int), 1, 21)
abbrev MX7_hasRun : MT := (yX7_hasRun, cX7_hasRun, 4, (some .boolean), 0, 0)
abbrev MX7_findingOfCopy : MT := (yX7_findingOfCopy, cX7_findingOfCopy, 6, (some .int), 1, 23)
abbrev MX7_item : MT := (yX7_item, cX7_item, 3, (some .int), 0, 0)
abbrev MX7_put : MT := (yX7_put, cX7_put, 4, none, 0, 0)
abbrev MX7_move : MT := (yX7_move, cX7_move, 6, none, 1, 40)
abbrev MX8_isFull : MT := (yX8_isFull, cX8_isFull, 1, (some .boolean), 0, 0)
abbrev MX8_append : MT := (yX8_append, cX8_append, 2, none, 0, 0)
abbrev MX8_empty : MT := (yX8_empty, cX8_empty, 1, none, 0, 0)
abbrev MX9_joinTowns : MT := (yX9_joinTowns, cX9_joinTowns, 2, none, 3, 74)
abbrev MX9_goOnByLanes : MT := (yX9_goOnByLanes, cX9_goOnByLanes, 9, none, 1, 21)
abbrev MX9_behindRounds : MT := (yX9_behindRounds, cX9_behindRounds, 14, (some .long), 1, 21)
abbrev MX9_lengthen : MT := (yX9_lengthen, cX9_lengthen, 6, none, 2, 54)
abbrev MX9_countRounds : MT := (yX9_countRounds, cX9_countRounds, 5, none, 3, 79)
abbrev MX9_countFrom : MT := (yX9_countFrom, cX9_countFrom, 5, none, 3, 79)
abbrev MX9_stampForGood : MT := (yX9_stampForGood, cX9_stampForGood, 5, none, 1, 21)
abbrev MX9_number : MT := (yX9_number, cX9_number, 7, (some .long), 4, 103)
abbrev MX10_isText : MT := (yX10_isText, cX10_isText, 1, (some .boolean), 0, 0)
abbrev MX10_learnIfLand : MT := (yX10_learnIfLand, cX10_learnIfLand, 2, none, 4, 91)
abbrev MX10_type : MT := (yX10_type, cX10_type, 3, (some .int), 5, 112)
abbrev MX10_wipe : MT := (yX10_wipe, cX10_wipe, 3, (some .int), 5, 112)
abbrev MX10_wayFault : MT := (yX10_wayFault, cX10_wayFault, 3, (some .int), 1, 21)
abbrev MX10_fault : MT := (yX10_fault, cX10_fault, 2, (some .int), 2, 43)
abbrev MX10_gate : MT := (yX10_gate, cX10_gate, 3, (some .int), 1, 21)
abbrev MX10_room : MT := (yX10_room, cX10_room, 1, (some .int), 1, 20)
abbrev MX10_shut : MT := (yX10_shut, cX10_shut, 2, (some .int), 1, 22)
abbrev MX10_isWay : MT := (yX10_isWay, cX10_isWay, 1, (some .boolean), 0, 0)
abbrev MX10_stampWay : MT := (yX10_stampWay, cX10_stampWay, 5, none, 2, 43)
abbrev MX10_byteOf : MT := (yX10_byteOf, cX10_byteOf, 1, (some .int), 0, 0)
abbrev MX10_paper : MT := (yX10_paper, cX10_paper, 3, (some .int), 3, 67)
abbrev MX10_isWayOrClean : MT := (yX10_isWayOrClean, cX10_isWayOrClean, 1, (some .boolean), 0, 0)
abbrev MX10_judgeWay : MT := (yX10_judgeWay, cX10_judgeWay, 4, none, 4, 86)
abbrev MX10_judged : MT := (yX10_judged, cX10_judged, 5, (some .int), 5, 109)
abbrev MX10_same : MT := (yX10_same, cX10_same, 4, (some .int), 3, 67)
abbrev MX10_areEnds : MT := (yX10_areEnds, cX10_areEnds, 4, (some .boolean), 1, 20)
abbrev MX10_longRefusal : MT := (yX10_longRefusal, cX10_longRefusal, 1, (some .long), 0, 0)
abbrev MX10_planRoute : MT := (yX10_planRoute, cX10_planRoute, 5, (some .int), 4, 98)
abbrev MX10_shortest : MT := (yX10_shortest, cX10_shortest, 7, (some .long), 5, 122)
abbrev MX10_letter : MT := (yX10_letter, cX10_letter, 7, (some .int), 5, 122)
abbrev MX10_errands : MT := (yX10_errands, cX10_errands, 5, (some .int), 5, 120)
abbrev MX10_clean : MT := (yX10_clean, cX10_clean, 2, (some .int), 5, 120)
abbrev MX10_found : MT := (yX10_found, cX10_found, 3, (some .int), 5, 108)
abbrev MX10_many : MT := (yX10_many, cX10_many, 5, (some .long), 5, 129)
abbrev MX10_list : MT := (yX10_list, cX10_list, 3, (some .int), 3, 67)
abbrev MX10_isSheet : MT := (yX10_isSheet, cX10_isSheet, 1, (some .boolean), 0, 0)
abbrev MX10_listIfRoom : MT := (yX10_listIfRoom, cX10_listIfRoom, 2, none, 2, 44)
abbrev MX10_read : MT := (yX10_read, cX10_read, 5, (some .int), 3, 65)
abbrev MX10_unlist : MT := (yX10_unlist, cX10_unlist, 1, (some .int), 2, 41)
abbrev MX10_listed : MT := (yX10_listed, cX10_listed, 3, (some .int), 1, 23)
abbrev MX10_arePlaces : MT := (yX10_arePlaces, cX10_arePlaces, 1, (some .boolean), 0, 0)
abbrev MX10_lets : MT := (yX10_lets, cX10_lets, 3, (some .int), 3, 70)
abbrev MX10_slips : MT := (yX10_slips, cX10_slips, 2, (some .int), 4, 93)
abbrev MX10_fewest : MT := (yX10_fewest, cX10_fewest, 1, (some .int), 4, 96)
abbrev MX10_far : MT := (yX10_far, cX10_far, 3, (some .int), 3, 74)
abbrev MX10_without : MT := (yX10_without, cX10_without, 5, (some .int), 3, 74)
abbrev MX10_with : MT := (yX10_with, cX10_with, 4, (some .int), 3, 76)
abbrev MX10_isForm : MT := (yX10_isForm, cX10_isForm, 1, (some .boolean), 0, 0)
abbrev MX10_sheet : MT := (yX10_sheet, cX10_sheet, 4, (some .int), 2, 46)
abbrev MX10_lose : MT := (yX10_lose, cX10_lose, 3, (some .int), 1, 21)
abbrev MX10_lay : MT := (yX10_lay, cX10_lay, 6, (some .int), 2, 44)
abbrev MX10_get : MT := (yX10_get, cX10_get, 5, (some .int), 2, 44)
abbrev MX10_copy : MT := (yX10_copy, cX10_copy, 7, (some .int), 2, 65)
abbrev MX10_write : MT := (yX10_write, cX10_write, 5, (some .int), 3, 67)
abbrev MX10_count : MT := (yX10_count, cX10_count, 2, (some .int), 2, 40)
abbrev MX10_digestGate : MT := (yX10_digestGate, cX10_digestGate, 7, (some .long), 4, 98)
abbrev MX10_digestWay : MT := (yX10_digestWay, cX10_digestWay, 8, (some .long), 6, 153)
abbrev MX10_digestTown : MT := (yX10_digestTown, cX10_digestTown, 6, (some .long), 6, 144)
abbrev MX10_digest : MT := (yX10_digest, cX10_digest, 4, (some .long), 7, 180)
abbrev MX11_in : MT := (yX11_in, cX11_in, 6, (some .boolean), 0, 0)
abbrev MX11_no : MT := (yX11_no, cX11_no, 1, (some .long), 0, 0)
abbrev MX11_isTwo : MT := (yX11_isTwo, cX11_isTwo, 1, (some .boolean), 1, 25)
abbrev MX11_isTown : MT := (yX11_isTown, cX11_isTown, 1, (some .boolean), 1, 25)
abbrev MX11_met : MT := (yX11_met, cX11_met, 2, (some .int), 0, 0)
abbrev MX11_isSheet : MT := (yX11_isSheet, cX11_isSheet, 1, (some .boolean), 1, 25)
abbrev MX11_sheet : MT := (yX11_sheet, cX11_sheet, 5, (some .int), 2, 45)
abbrev MX11_lose : MT := (yX11_lose, cX11_lose, 2, (some .int), 2, 45)
abbrev MX11_lacks : MT := (yX11_lacks, cX11_lacks, 4, (some .int), 1, 25)
abbrev MX11_cut : MT := (yX11_cut, cX11_cut, 2, (some .int), 0, 0)
abbrev MX11_lay : MT := (yX11_lay, cX11_lay, 6, (some .int), 2, 48)
abbrev MX11_get : MT := (yX11_get, cX11_get, 4, (some .int), 2, 48)
abbrev MX11_copy : MT := (yX11_copy, cX11_copy, 7, (some .int), 2, 45)
abbrev MX11_isText : MT := (yX11_isText, cX11_isText, 1, (some .boolean), 1, 25)
abbrev MX11_isWay : MT := (yX11_isWay, cX11_isWay, 1, (some .boolean), 1, 25)
abbrev MX11_from : MT := (yX11_from, cX11_from, 1, (some .int), 0, 0)
abbrev MX11_type : MT := (yX11_type, cX11_type, 3, (some .int), 2, 45)
abbrev MX11_wipe : MT := (yX11_wipe, cX11_wipe, 3, (some .int), 2, 45)
abbrev MX11_here : MT := (yX11_here, cX11_here, 1, (some .int), 0, 0)
abbrev MX11_clears : MT := (yX11_clears, cX11_clears, 1, none, 0, 0)
abbrev MX11_readsRoom : MT := (yX11_readsRoom, cX11_readsRoom, 3, (some .boolean), 1, 25)
abbrev MX11_readsPart : MT := (yX11_readsPart, cX11_readsPart, 3, (some .boolean), 2, 47)
abbrev MX11_readsLand : MT := (yX11_readsLand, cX11_readsLand, 2, (some .int), 3, 69)
abbrev MX11_letterOf : MT := (yX11_letterOf, cX11_letterOf, 4, (some .int), 1, 25)
abbrev MX11_byteOf : MT := (yX11_byteOf, cX11_byteOf, 1, (some .int), 0, 0)
abbrev MX11_faultOf : MT := (yX11_faultOf, cX11_faultOf, 4, (some .int), 4, 90)
abbrev MX11_fault : MT := (yX11_fault, cX11_fault, 2, (some .int), 5, 113)
abbrev MX11_start : MT := (yX11_start, cX11_start, 2, (some .int), 0, 0)
abbrev MX11_end : MT := (yX11_end, cX11_end, 2, (some .int), 1, 21)
abbrev MX11_back : MT := (yX11_back, cX11_back, 1, (some .int), 0, 0)
abbrev MX11_isShut : MT := (yX11_isShut, cX11_isShut, 2, (some .boolean), 0, 0)
abbrev MX11_gate : MT := (yX11_gate, cX11_gate, 3, (some .int), 4, 90)
abbrev MX11_room : MT := (yX11_room, cX11_room, 1, (some .int), 4, 90)
abbrev MX11_shut : MT := (yX11_shut, cX11_shut, 3, (some .int), 1, 25)
abbrev MX11_stamp : MT := (yX11_stamp, cX11_stamp, 4, none, 1, 20)
abbrev MX11_lengthOf : MT := (yX11_lengthOf, cX11_lengthOf, 2, (some .int), 5, 113)
abbrev MX11_letterAt : MT := (yX11_letterAt, cX11_letterAt, 3, (some .int), 2, 48)
abbrev MX11_findPaper : MT := (yX11_findPaper, cX11_findPaper, 5, none, 6, 134)
abbrev MX11_paper : MT := (yX11_paper, cX11_paper, 3, (some .int), 7, 158)
abbrev MX11_isBegun : MT := (yX11_isBegun, cX11_isBegun, 2, (some .boolean), 1, 25)
abbrev MX11_judgedOf : MT := (yX11_judgedOf, cX11_judgedOf, 13, (some .int), 7, 158)
abbrev MX11_judged : MT := (yX11_judged, cX11_judged, 5, (some .int), 8, 190)
abbrev MX11_alike : MT := (yX11_alike, cX11_alike, 2, (some .int), 0, 0)
abbrev MX11_sameOf : MT := (yX11_sameOf, cX11_sameOf, 3, (some .int), 7, 158)
abbrev MX11_same : MT := (yX11_same, cX11_same, 3, (some .int), 8, 180)
abbrev MX11_isUnseen : MT := (yX11_isUnseen, cX11_isUnseen, 2, (some .boolean), 1, 21)
abbrev MX11_findUnseen : MT := (yX11_findUnseen, cX11_findUnseen, 6, none, 2, 42)
abbrev MX11_findBetween : MT := (yX11_findBetween, cX11_findBetween, 3, none, 1, 21)
abbrev MX11_goesOn : MT := (yX11_goesOn, cX11_goesOn, 3, none, 0, 0)
abbrev MX11_findShortest : MT := (yX11_findShortest, cX11_findShortest, 8, none, 7, 158)
abbrev MX11_shortestOf : MT := (yX11_shortestOf, cX11_shortestOf, 6, (some .long), 8, 185)
abbrev MX11_isAsked : MT := (yX11_isAsked, cX11_isAsked, 5, (some .boolean), 2, 46)
abbrev MX11_shortest : MT := (yX11_shortest, cX11_shortest, 6, (some .long), 9, 210)
abbrev MX11_leastUnseen : MT := (yX11_leastUnseen, cX11_leastUnseen, 6, (some .int), 2, 42)
abbrev MX11_letter : MT := (yX11_letter, cX11_letter, 11, (some .int), 8, 185)
abbrev MX11_findErrands : MT := (yX11_findErrands, cX11_findErrands, 7, none, 4, 90)
abbrev MX11_stampsTo : MT := (yX11_stampsTo, cX11_stampsTo, 3, (some .int), 0, 0)
abbrev MX11_errandsOf : MT := (yX11_errandsOf, cX11_errandsOf, 9, (some .int), 5, 116)
abbrev MX11_errands : MT := (yX11_errands, cX11_errands, 4, (some .int), 6, 144)
abbrev MX11_cleanOf : MT := (yX11_cleanOf, cX11_cleanOf, 4, (some .int), 5, 116)
abbrev MX11_clean : MT := (yX11_clean, cX11_clean, 2, (some .int), 6, 139)
abbrev MX11_foundOf : MT := (yX11_foundOf, cX11_foundOf, 8, (some .int), 7, 158)
abbrev MX11_found : MT := (yX11_found, cX11_found, 3, (some .int), 8, 185)
abbrev MX11_index : MT := (yX11_index, cX11_index, 4, (some .int), 0, 0)
abbrev MX11_closedBy : MT := (yX11_closedBy, cX11_closedBy, 9, (some .long), 2, 42)
abbrev MX11_findClosed : MT := (yX11_findClosed, cX11_findClosed, 8, none, 3, 70)
abbrev MX11_follows : MT := (yX11_follows, cX11_follows, 7, none, 1, 23)
abbrev MX11_manyOf : MT := (yX11_manyOf, cX11_manyOf, 9, (some .long), 7, 158)
abbrev MX11_many : MT := (yX11_many, cX11_many, 5, (some .long), 8, 186)
abbrev MX11_lists : MT := (yX11_lists, cX11_lists, 3, (some .int), 1, 20)
abbrev MX11_list : MT := (yX11_list, cX11_list, 3, (some .int), 7, 158)
abbrev MX11_read : MT := (yX11_read, cX11_read, 5, (some .int), 7, 158)
abbrev MX11_unlist : MT := (yX11_unlist, cX11_unlist, 1, (some .int), 0, 0)
abbrev MX11_listedAt : MT := (yX11_listedAt, cX11_listedAt, 3, (some .int), 0, 0)
abbrev MX11_listed : MT := (yX11_listed, cX11_listed, 3, (some .int), 1, 25)
abbrev MX11_letsBy : MT := (yX11_letsBy, cX11_letsBy, 5, (some .boolean), 1, 22)
abbrev MX11_arePlaces : MT := (yX11_arePlaces, cX11_arePlaces, 1, (some .boolean), 1, 25)
abbrev MX11_lets : MT := (yX11_lets, cX11_lets, 4, (some .int), 7, 158)
abbrev MX11_slipsOf : MT := (yX11_slipsOf, cX11_slipsOf, 5, (some .int), 2, 46)
abbrev MX11_slips : MT := (yX11_slips, cX11_slips, 2, (some .int), 3, 70)
abbrev MX11_ones : MT := (yX11_ones, cX11_ones, 3, (some .int), 0, 0)
abbrev MX11_fewestNow : MT := (yX11_fewestNow, cX11_fewestNow, 4, (some .int), 3, 70)
abbrev MX11_fewest : MT := (yX11_fewest, cX11_fewest, 1, (some .int), 4, 93)
abbrev MX11_joins : MT := (yX11_joins, cX11_joins, 3, none, 0, 0)
abbrev MX11_findFar : MT := (yX11_findFar, cX11_findFar, 7, none, 2, 42)
abbrev MX11_farOf : MT := (yX11_farOf, cX11_farOf, 4, (some .int), 4, 90)
abbrev MX11_far : MT := (yX11_far, cX11_far, 3, (some .int), 5, 113)
abbrev MX11_changed : MT := (yX11_changed, cX11_changed, 10, (some .int), 3, 68)
abbrev MX11_without : MT := (yX11_without, cX11_without, 3, (some .int), 4, 97)
abbrev MX11_with : MT := (yX11_with, cX11_with, 4, (some .int), 4, 97)
abbrev MX11_write : MT := (yX11_write, cX11_write, 5, (some .int), 7, 158)
abbrev MX11_count : MT := (yX11_count, cX11_count, 4, (some .int), 4, 90)
abbrev MX11_digest : MT := (yX11_digest, cX11_digest, 5, (some .long), 9, 210)
theorem iG0 : ∀ w ∈ u_ws RX0 TX0 3, w ∈ tbG := tb_places [110, 112, 114] (by decide +kernel) (by decide +kernel)
theorem ln0 : ∀ o, kd o = 0 → ln o = 3 := by
  have h : ∀ o, o < NC → kd o = 0 → ln o = 3 := by decide +kernel
  exact fun o ho => h o (kd_lt20 (by omega)) ho
theorem iG1 : ∀ w ∈ u_ws RX1 TX1 4, w ∈ tbG := tb_places [149, 151, 153, 155] (by decide +kernel) (by decide +kernel)
theorem ln1 : ∀ o, kd o = 1 → ln o = 4 := by
  have h : ∀ o, o < NC → kd o = 1 → ln o = 4 := by decide +kernel
  exact fun o ho => h o (kd_lt20 (by omega)) ho
theorem iG2 : ∀ w ∈ u_ws RX2 TX2 6, w ∈ tbG := tb_places [80, 82, 84, 86, 88, 90] (by decide +kernel) (by decide +kernel)
theorem ln2 : ∀ o, kd o = 2 → ln o = 6 := by
  have h : ∀ o, o < NC → kd o = 2 → ln o = 6 := by decide +kernel
  exact fun o ho => h o (kd_lt20 (by omega)) ho
theorem iG3 : ∀ w ∈ u_ws RX3 TX3 6, w ∈ tbG := tb_places [37, 39, 41, 43, 45, 47] (by decide +kernel) (by decide +kernel)
theorem ln3 : ∀ o, kd o = 3 → ln o = 6 := by
  have h : ∀ o, o < NC → kd o = 3 → ln o = 6 := by decide +kernel
  exact fun o ho => h o (kd_lt20 (by omega)) ho
theorem iG4 : ∀ w ∈ u_ws RX4 TX4 5, w ∈ tbG := tb_places [201, 203, 205, 207, 209] (by decide +kernel) (by decide +kernel)
theorem ln4 : ∀ o, kd o = 4 → ln o = 5 := by
  have h : ∀ o, o < NC → kd o = 4 → ln o = 5 := by decide +kernel
  exact fun o ho => h o (kd_lt20 (by omega)) ho
theorem iG5 : ∀ w ∈ u_ws RX5 TX5 2, w ∈ tbG := tb_places [61, 63] (by decide +kernel) (by decide +kernel)
theorem ln5 : ∀ o, kd o = 5 → ln o = 2 := by
  have h : ∀ o, o < NC → kd o = 5 → ln o = 2 := by decide +kernel
  exact fun o ho => h o (kd_lt20 (by omega)) ho
theorem iG6 : ∀ w ∈ u_ws RX6 TX6 6, w ∈ tbG := tb_places [123, 125, 127, 129, 131, 133] (by decide +kernel) (by decide +kernel)
theorem ln6 : ∀ o, kd o = 6 → ln o = 6 := by
  have h : ∀ o, o < NC → kd o = 6 → ln o = 6 := by decide +kernel
  exact fun o ho => h o (kd_lt20 (by omega)) ho
theorem iG7 : ∀ w ∈ u_ws RX7 TX7 4, w ∈ tbG := tb_places [228, 230, 232, 234] (by decide +kernel) (by decide +kernel)
theorem ln7 : ∀ o, kd o = 7 → ln o = 4 := by
  have h : ∀ o, o < NC → kd o = 7 → ln o = 4 := by decide +kernel
  exact fun o ho => h o (kd_lt20 (by omega)) ho
theorem iG8 : ∀ w ∈ u_ws RX8 TX8 3, w ∈ tbG := tb_places [248, 250, 252] (by decide +kernel) (by decide +kernel)
theorem ln8 : ∀ o, kd o = 8 → ln o = 3 := by
  have h : ∀ o, o < NC → kd o = 8 → ln o = 3 := by decide +kernel
  exact fun o ho => h o (kd_lt20 (by omega)) ho
theorem iG9 : ∀ w ∈ u_ws RX9 TX9 7, w ∈ tbG := tb_places [175, 177, 179, 181, 183, 185, 187] (by decide +kernel) (by decide +kernel)
theorem ln9 : ∀ o, kd o = 9 → ln o = 7 := by
  have h : ∀ o, o < NC → kd o = 9 → ln o = 7 := by decide +kernel
  exact fun o ho => h o (kd_lt20 (by omega)) ho
theorem iG10 : ∀ w ∈ u_ws RX10 TX10 12, w ∈ tbG := tb_places [267, 269, 271, 273, 275, 277, 279, 281, 283, 285, 287, 289] (by decide +kernel) (by decide +kernel)
theorem ln10 : ∀ o, kd o = 10 → ln o = 12 := by
  have h : ∀ o, o < NC → kd o = 10 → ln o = 12 := by decide +kernel
  exact fun o ho => h o (kd_lt20 (by omega)) ho
theorem iG11 : ∀ w ∈ u_ws RX11 TX11 35, w ∈ tbG := tb_places [1059, 1061, 1063, 1065, 1067, 1069, 1071, 1073, 1075, 1077, 1079, 1081, 1083, 1085, 1087, 1089, 1091, 1093, 1095, 1097, 1099, 1101, 1103, 1105, 1107, 1109, 1111, 1113, 1115, 1117, 1119, 1121, 1123, 1125, 1127] (by decide +kernel) (by decide +kernel)
theorem ln11 : ∀ o, kd o = 11 → ln o = 35 := by
  have h : ∀ o, o < NC → kd o = 11 → ln o = 35 := by decide +kernel
  exact fun o ho => h o (kd_lt20 (by omega)) ho
theorem sb_kd : ∀ o, kd o < 30 → o < NC := fun o h => kd_lt20 h
set_option maxRecDepth 20000 in
theorem fl10_0 : Cond.fieldLink RX10 12 (TX10 0).1 (TX10 0).2.1 (TX10 0).2.2.1 ∈ tbG := tbk2 15 rfl rfl
theorem gf10_0 {E : EV} {M : MT} {Q : Po} {pc o : Nat} {ls : List (Nat × Value)} {st : List Value} {μ : Mem} {r : Nat} (hM : M.1.cls = RX10) (ho : kd o = 10) (hr : rf o 0 = r) (hd : decode M.2.1 pc = .ok (.getfield 12, 3)) (h : Ex E M Q (pc + 3) ls (.ref r :: st) μ) : Ex E M Q pc ls (.ref o :: st) μ :=
  x_get (ci := 10) (k := 0) ho (by decide) rfl iG10 (by decide) (by rw [ln10 o ho]; decide) (by rw [hM]; exact fl10_0) (by unfold fp; rw [ho, hr]; rfl) hd h
set_option maxRecDepth 20000 in
theorem fl10_1 : Cond.fieldLink RX10 18 (TX10 1).1 (TX10 1).2.1 (TX10 1).2.2.1 ∈ tbG := tbk2 16 rfl rfl
theorem gf10_1 {E : EV} {M : MT} {Q : Po} {pc o : Nat} {ls : List (Nat × Value)} {st : List Value} {μ : Mem} {r : Nat} (hM : M.1.cls = RX10) (ho : kd o = 10) (hr : rf o 1 = r) (hd : decode M.2.1 pc = .ok (.getfield 18, 3)) (h : Ex E M Q (pc + 3) ls (.ref r :: st) μ) : Ex E M Q pc ls (.ref o :: st) μ :=
  x_get (ci := 10) (k := 1) ho (by decide) rfl iG10 (by decide) (by rw [ln10 o ho]; decide) (by rw [hM]; exact fl10_1) (by unfold fp; rw [ho, hr]; rfl) hd h
set_option maxRecDepth 20000 in
theorem fl10_2 : Cond.fieldLink RX10 25 (TX10 2).1 (TX10 2).2.1 (TX10 2).2.2.1 ∈ tbG := tbk2 17 rfl rfl
theorem gf10_2 {E : EV} {M : MT} {Q : Po} {pc o : Nat} {ls : List (Nat × Value)} {st : List Value} {μ : Mem} {r : Nat} (hM : M.1.cls = RX10) (ho : kd o = 10) (hr : rf o 2 = r) (hd : decode M.2.1 pc = .ok (.getfield 25, 3)) (h : Ex E M Q (pc + 3) ls (.ref r :: st) μ) : Ex E M Q pc ls (.ref o :: st) μ :=
  x_get (ci := 10) (k := 2) ho (by decide) rfl iG10 (by decide) (by rw [ln10 o ho]; decide) (by rw [hM]; exact fl10_2) (by unfold fp; rw [ho, hr]; rfl) hd h
set_option maxRecDepth 20000 in
theorem fl10_3 : Cond.fieldLink RX10 29 (TX10 3).1 (TX10 3).2.1 (TX10 3).2.2.1 ∈ tbG := tbk2 18 rfl rfl
theorem gf10_3 {E : EV} {M : MT} {Q : Po} {pc o : Nat} {ls : List (Nat × Value)} {st : List Value} {μ : Mem} {r : Nat} (hM : M.1.cls = RX10) (ho : kd o = 10) (hr : rf o 3 = r) (hd : decode M.2.1 pc = .ok (.getfield 29, 3)) (h : Ex E M Q (pc + 3) ls (.ref r :: st) μ) : Ex E M Q pc ls (.ref o :: st) μ :=
  x_get (ci := 10) (k := 3) ho (by decide) rfl iG10 (by decide) (by rw [ln10 o ho]; decide) (by rw [hM]; exact fl10_3) (by unfold fp; rw [ho, hr]; rfl) hd h
set_option maxRecDepth 20000 in
theorem fl10_4 : Cond.fieldLink RX10 37 (TX10 4).1 (TX10 4).2.1 (TX10 4).2.2.1 ∈ tbG := tbk2 19 rfl rfl
theorem gf10_4 {E : EV} {M : MT} {Q : Po} {pc o : Nat} {ls : List (Nat × Value)} {st : List Value} {μ : Mem} {r : Nat} (hM : M.1.cls = RX10) (ho : kd o = 10) (hr : rf o 4 = r) (hd : decode M.2.1 pc = .ok (.getfield 37, 3)) (h : Ex E M Q (pc + 3) ls (.ref r :: st) μ) : Ex E M Q pc ls (.ref o :: st) μ :=
  x_get (ci := 10) (k := 4) ho (by decide) rfl iG10 (by decide) (by rw [ln10 o ho]; decide) (by rw [hM]; exact fl10_4) (by unfold fp; rw [ho, hr]; rfl) hd h
set_option maxRecDepth 20000 in
theorem fl10_5 : Cond.fieldLink RX10 44 (TX10 5).1 (TX10 5).2.1 (TX10 5).2.2.1 ∈ tbG := tbk2 20 rfl rfl
theorem gf10_5 {E : EV} {M : MT} {Q : Po} {pc o : Nat} {ls : List (Nat × Value)} {st : List Value} {μ : Mem} {r : Nat} (hM : M.1.cls = RX10) (ho : kd o = 10) (hr : rf o 5 = r) (hd : decode M.2.1 pc = .ok (.getfield 44, 3)) (h : Ex E M Q (pc + 3) ls (.ref r :: st) μ) : Ex E M Q pc ls (.ref o :: st) μ :=
  x_get (ci := 10) (k := 5) ho (by decide) rfl iG10 (by decide) (by rw [ln10 o ho]; decide) (by rw [hM]; exact fl10_5) (by unfold fp; rw [ho, hr]; rfl) hd h
set_option maxRecDepth 20000 in
theorem fl10_6 : Cond.fieldLink RX10 51 (TX10 6).1 (TX10 6).2.1 (TX10 6).2.2.1 ∈ tbG := tbk2 21 rfl rfl
theorem gf10_6 {E : EV} {M : MT} {Q : Po} {pc o : Nat} {ls : List (Nat × Value)} {st : List Value} {μ : Mem} {r : Nat} (hM : M.1.cls = RX10) (ho : kd o = 10) (hr : rf o 6 = r) (hd : decode M.2.1 pc = .ok (.getfield 51, 3)) (h : Ex E M Q (pc + 3) ls (.ref r :: st) μ) : Ex E M Q pc ls (.ref o :: st) μ :=
  x_get (ci := 10) (k := 6) ho (by decide) rfl iG10 (by decide) (by rw [ln10 o ho]; decide) (by rw [hM]; exact fl10_6) (by unfold fp; rw [ho, hr]; rfl) hd h
set_option maxRecDepth 20000 in
theorem fl10_7 : Cond.fieldLink RX10 58 (TX10 7).1 (TX10 7).2.1 (TX10 7).2.2.1 ∈ tbG := tbk2 22 rfl rfl
theorem gf10_7 {E : EV} {M : MT} {Q : Po} {pc o : Nat} {ls : List (Nat × Value)} {st : List Value} {μ : Mem} {r : Nat} (hM : M.1.cls = RX10) (ho : kd o = 10) (hr : rf o 7 = r) (hd : decode M.2.1 pc = .ok (.getfield 58, 3)) (h : Ex E M Q (pc + 3) ls (.ref r :: st) μ) : Ex E M Q pc ls (.ref o :: st) μ :=
  x_get (ci := 10) (k := 7) ho (by decide) rfl iG10 (by decide) (by rw [ln10 o ho]; decide) (by rw [hM]; exact fl10_7) (by unfold fp; rw [ho, hr]; rfl) hd h
set_option maxRecDepth 20000 in
theorem fl10_8 : Cond.fieldLink RX10 65 (TX10 8).1 (TX10 8).2.1 (TX10 8).2.2.1 ∈ tbG := tbk2 23 rfl rfl
theorem gf10_8 {E : EV} {M : MT} {Q : Po} {pc o : Nat} {ls : List (Nat × Value)} {st : List Value} {μ : Mem} {r : Nat} (hM : M.1.cls = RX10) (ho : kd o = 10) (hr : rf o 8 = r) (hd : decode M.2.1 pc = .ok (.getfield 65, 3)) (h : Ex E M Q (pc + 3) ls (.ref r :: st) μ) : Ex E M Q pc ls (.ref o :: st) μ :=
  x_get (ci := 10) (k := 8) ho (by decide) rfl iG10 (by decide) (by rw [ln10 o ho]; decide) (by rw [hM]; exact fl10_8) (by unfold fp; rw [ho, hr]; rfl) hd h
set_option maxRecDepth 20000 in
theorem fl10_9 : Cond.fieldLink RX10 72 (TX10 9).1 (TX10 9).2.1 (TX10 9).2.2.1 ∈ tbG := tbk2 24 rfl rfl
theorem gf10_9 {E : EV} {M : MT} {Q : Po} {pc o : Nat} {ls : List (Nat × Value)} {st : List Value} {μ : Mem} {r : Nat} (hM : M.1.cls = RX10) (ho : kd o = 10) (hr : rf o 9 = r) (hd : decode M.2.1 pc = .ok (.getfield 72, 3)) (h : Ex E M Q (pc + 3) ls (.ref r :: st) μ) : Ex E M Q pc ls (.ref o :: st) μ :=
  x_get (ci := 10) (k := 9) ho (by decide) rfl iG10 (by decide) (by rw [ln10 o ho]; decide) (by rw [hM]; exact fl10_9) (by unfold fp; rw [ho, hr]; rfl) hd h
set_option maxRecDepth 20000 in
theorem fl10_10 : Cond.fieldLink RX10 76 (TX10 10).1 (TX10 10).2.1 (TX10 10).2.2.1 ∈ tbG := tbk2 25 rfl rfl
theorem gf10_10 {E : EV} {M : MT} {Q : Po} {pc o : Nat} {ls : List (Nat × Value)} {st : List Value} {μ : Mem} {r : Nat} (hM : M.1.cls = RX10) (ho : kd o = 10) (hr : rf o 10 = r) (hd : decode M.2.1 pc = .ok (.getfield 76, 3)) (h : Ex E M Q (pc + 3) ls (.ref r :: st) μ) : Ex E M Q pc ls (.ref o :: st) μ :=
  x_get (ci := 10) (k := 10) ho (by decide) rfl iG10 (by decide) (by rw [ln10 o ho]; decide) (by rw [hM]; exact fl10_10) (by unfold fp; rw [ho, hr]; rfl) hd h
set_option maxRecDepth 20000 in
theorem fl10_11 : Cond.fieldLink RX10 82 (TX10 11).1 (TX10 11).2.1 (TX10 11).2.2.1 ∈ tbG := tbk2 26 rfl rfl
theorem gf10_11 {E : EV} {M : MT} {Q : Po} {pc o : Nat} {ls : List (Nat × Value)} {st : List Value} {μ : Mem} {r : Nat} (hM : M.1.cls = RX10) (ho : kd o = 10) (hr : rf o 11 = r) (hd : decode M.2.1 pc = .ok (.getfield 82, 3)) (h : Ex E M Q (pc + 3) ls (.ref r :: st) μ) : Ex E M Q pc ls (.ref o :: st) μ :=
  x_get (ci := 10) (k := 11) ho (by decide) rfl iG10 (by decide) (by rw [ln10 o ho]; decide) (by rw [hM]; exact fl10_11) (by unfold fp; rw [ho, hr]; rfl) hd h
set_option maxRecDepth 20000 in
theorem fl0_0 : Cond.fieldLink RX0 11 (TX0 0).1 (TX0 0).2.1 (TX0 0).2.2.1 ∈ tbG := tbk1 107 rfl rfl
theorem gf0_0 {E : EV} {M : MT} {Q : Po} {pc o : Nat} {ls : List (Nat × Value)} {st : List Value} {μ : Mem} {r : Nat} (hM : M.1.cls = RX0) (ho : kd o = 0) (hr : rf o 0 = r) (hd : decode M.2.1 pc = .ok (.getfield 11, 3)) (h : Ex E M Q (pc + 3) ls (.ref r :: st) μ) : Ex E M Q pc ls (.ref o :: st) μ :=
  x_get (ci := 0) (k := 0) ho (by decide) rfl iG0 (by decide) (by rw [ln0 o ho]; decide) (by rw [hM]; exact fl0_0) (by unfold fp; rw [ho, hr]; rfl) hd h
set_option maxRecDepth 20000 in
theorem fl0_1 : Cond.fieldLink RX0 16 (TX0 1).1 (TX0 1).2.1 (TX0 1).2.2.1 ∈ tbG := tbk1 108 rfl rfl
theorem gf0_1 {E : EV} {M : MT} {Q : Po} {pc o : Nat} {ls : List (Nat × Value)} {st : List Value} {μ : Mem} {r : Nat} (hM : M.1.cls = RX0) (ho : kd o = 0) (hr : rf o 1 = r) (hd : decode M.2.1 pc = .ok (.getfield 16, 3)) (h : Ex E M Q (pc + 3) ls (.ref r :: st) μ) : Ex E M Q pc ls (.ref o :: st) μ :=
  x_get (ci := 0) (k := 1) ho (by decide) rfl iG0 (by decide) (by rw [ln0 o ho]; decide) (by rw [hM]; exact fl0_1) (by unfold fp; rw [ho, hr]; rfl) hd h
set_option maxRecDepth 20000 in
theorem fl0_2 : Cond.fieldLink RX0 20 (TX0 2).1 (TX0 2).2.1 (TX0 2).2.2.1 ∈ tbG := tbk1 109 rfl rfl
theorem gf0_2 {E : EV} {M : MT} {Q : Po} {pc o : Nat} {ls : List (Nat × Value)} {st : List Value} {μ : Mem} {r : Nat} (hM : M.1.cls = RX0) (ho : kd o = 0) (hr : rf o 2 = r) (hd : decode M.2.1 pc = .ok (.getfield 20, 3)) (h : Ex E M Q (pc + 3) ls (.ref r :: st) μ) : Ex E M Q pc ls (.ref o :: st) μ :=
  x_get (ci := 0) (k := 2) ho (by decide) rfl iG0 (by decide) (by rw [ln0 o ho]; decide) (by rw [hM]; exact fl0_2) (by unfold fp; rw [ho, hr]; rfl) hd h
set_option maxRecDepth 20000 in
theorem fl1_1 : Cond.fieldLink RX1 12 (TX1 1).1 (TX1 1).2.1 (TX1 1).2.2.1 ∈ tbG := tbk1 146 rfl rfl
theorem gf1_1 {E : EV} {M : MT} {Q : Po} {pc o : Nat} {ls : List (Nat × Value)} {st : List Value} {μ : Mem} {r : Nat} (hM : M.1.cls = RX1) (ho : kd o = 1) (hr : rf o 1 = r) (hd : decode M.2.1 pc = .ok (.getfield 12, 3)) (h : Ex E M Q (pc + 3) ls (.ref r :: st) μ) : Ex E M Q pc ls (.ref o :: st) μ :=
  x_get (ci := 1) (k := 1) ho (by decide) rfl iG1 (by decide) (by rw [ln1 o ho]; decide) (by rw [hM]; exact fl1_1) (by unfold fp; rw [ho, hr]; rfl) hd h
set_option maxRecDepth 20000 in
theorem fl1_2 : Cond.fieldLink RX1 18 (TX1 2).1 (TX1 2).2.1 (TX1 2).2.2.1 ∈ tbG := tbk1 147 rfl rfl
theorem gf1_2 {E : EV} {M : MT} {Q : Po} {pc o : Nat} {ls : List (Nat × Value)} {st : List Value} {μ : Mem} {r : Nat} (hM : M.1.cls = RX1) (ho : kd o = 1) (hr : rf o 2 = r) (hd : decode M.2.1 pc = .ok (.getfield 18, 3)) (h : Ex E M Q (pc + 3) ls (.ref r :: st) μ) : Ex E M Q pc ls (.ref o :: st) μ :=
  x_get (ci := 1) (k := 2) ho (by decide) rfl iG1 (by decide) (by rw [ln1 o ho]; decide) (by rw [hM]; exact fl1_2) (by unfold fp; rw [ho, hr]; rfl) hd h
set_option maxRecDepth 20000 in
theorem fl1_3 : Cond.fieldLink RX1 22 (TX1 3).1 (TX1 3).2.1 (TX1 3).2.2.1 ∈ tbG := tbk1 148 rfl rfl
theorem gf1_3 {E : EV} {M : MT} {Q : Po} {pc o : Nat} {ls : List (Nat × Value)} {st : List Value} {μ : Mem} {r : Nat} (hM : M.1.cls = RX1) (ho : kd o = 1) (hr : rf o 3 = r) (hd : decode M.2.1 pc = .ok (.getfield 22, 3)) (h : Ex E M Q (pc + 3) ls (.ref r :: st) μ) : Ex E M Q pc ls (.ref o :: st) μ :=
  x_get (ci := 1) (k := 3) ho (by decide) rfl iG1 (by decide) (by rw [ln1 o ho]; decide) (by rw [hM]; exact fl1_3) (by unfold fp; rw [ho, hr]; rfl) hd h
set_option maxRecDepth 20000 in
theorem fl1_0 : Cond.fieldLink RX1 25 (TX1 0).1 (TX1 0).2.1 (TX1 0).2.2.1 ∈ tbG := tbk1 145 rfl rfl
theorem gf1_0 {E : EV} {M : MT} {Q : Po} {pc o : Nat} {ls : List (Nat × Value)} {st : List Value} {μ : Mem} {r : Nat} (hM : M.1.cls = RX1) (ho : kd o = 1) (hr : rf o 0 = r) (hd : decode M.2.1 pc = .ok (.getfield 25, 3)) (h : Ex E M Q (pc + 3) ls (.ref r :: st) μ) : Ex E M Q pc ls (.ref o :: st) μ :=
  x_get (ci := 1) (k := 0) ho (by decide) rfl iG1 (by decide) (by rw [ln1 o ho]; decide) (by rw [hM]; exact fl1_0) (by unfold fp; rw [ho, hr]; rfl) hd h
set_option maxRecDepth 20000 in
theorem fl2_1 : Cond.fieldLink RX2 12 (TX2 1).1 (TX2 1).2.1 (TX2 1).2.2.1 ∈ tbG := tbk1 75 rfl rfl
theorem gf2_1 {E : EV} {M : MT} {Q : Po} {pc o : Nat} {ls : List (Nat × Value)} {st : List Value} {μ : Mem} {r : Nat} (hM : M.1.cls = RX2) (ho : kd o = 2) (hr : rf o 1 = r) (hd : decode M.2.1 pc = .ok (.getfield 12, 3)) (h : Ex E M Q (pc + 3) ls (.ref r :: st) μ) : Ex E M Q pc ls (.ref o :: st) μ :=
  x_get (ci := 2) (k := 1) ho (by decide) rfl iG2 (by decide) (by rw [ln2 o ho]; decide) (by rw [hM]; exact fl2_1) (by unfold fp; rw [ho, hr]; rfl) hd h
set_option maxRecDepth 20000 in
theorem fl2_0 : Cond.fieldLink RX2 18 (TX2 0).1 (TX2 0).2.1 (TX2 0).2.2.1 ∈ tbG := tbk1 74 rfl rfl
theorem gf2_0 {E : EV} {M : MT} {Q : Po} {pc o : Nat} {ls : List (Nat × Value)} {st : List Value} {μ : Mem} {r : Nat} (hM : M.1.cls = RX2) (ho : kd o = 2) (hr : rf o 0 = r) (hd : decode M.2.1 pc = .ok (.getfield 18, 3)) (h : Ex E M Q (pc + 3) ls (.ref r :: st) μ) : Ex E M Q pc ls (.ref o :: st) μ :=
  x_get (ci := 2) (k := 0) ho (by decide) rfl iG2 (by decide) (by rw [ln2 o ho]; decide) (by rw [hM]; exact fl2_0) (by unfold fp; rw [ho, hr]; rfl) hd h
set_option maxRecDepth 20000 in
theorem fl2_2 : Cond.fieldLink RX2 22 (TX2 2).1 (TX2 2).2.1 (TX2 2).2.2.1 ∈ tbG := tbk1 76 rfl rfl
theorem gf2_2 {E : EV} {M : MT} {Q : Po} {pc o : Nat} {ls : List (Nat × Value)} {st : List Value} {μ : Mem} (hM : M.1.cls = RX2) (ho : kd o = 2) (hd : decode M.2.1 pc = .ok (.getfield 22, 3)) (h : Ex E M Q (pc + 3) ls (.int (μ.1 o 2) :: st) μ) : Ex E M Q pc ls (.ref o :: st) μ :=
  x_get (ci := 2) (k := 2) ho (by decide) rfl iG2 (by decide) (by rw [ln2 o ho]; decide) (by rw [hM]; exact fl2_2) (by unfold fp; rw [ho]; rfl) hd h
theorem pf2_2 {E : EV} {M : MT} {Q : Po} {pc o : Nat} {ls : List (Nat × Value)} {st : List Value} {μ : Mem} {x : Int32} (hM : M.1.cls = RX2) (ho : kd o = 2) (hd : decode M.2.1 pc = .ok (.putfield 22, 3)) (h : Ex E M Q (pc + 3) ls st (mI μ o 2 x)) : Ex E M Q pc ls (.int x :: .ref o :: st) μ :=
  x_putI (ci := 2) (k := 2) (ty := .int) tyX2 tyX2_ok nmX2 ho (by decide) rfl iG2 (by decide) (by rw [ln2 o ho]; decide) (by rw [hM]; exact fl2_2) rfl (by decide) (by decide +kernel) rfl rfl hd h
set_option maxRecDepth 20000 in
theorem fl2_3 : Cond.fieldLink RX2 26 (TX2 3).1 (TX2 3).2.1 (TX2 3).2.2.1 ∈ tbG := tbk1 77 rfl rfl
theorem gf2_3 {E : EV} {M : MT} {Q : Po} {pc o : Nat} {ls : List (Nat × Value)} {st : List Value} {μ : Mem} (hM : M.1.cls = RX2) (ho : kd o = 2) (hd : decode M.2.1 pc = .ok (.getfield 26, 3)) (h : Ex E M Q (pc + 3) ls (.int (μ.1 o 3) :: st) μ) : Ex E M Q pc ls (.ref o :: st) μ :=
  x_get (ci := 2) (k := 3) ho (by decide) rfl iG2 (by decide) (by rw [ln2 o ho]; decide) (by rw [hM]; exact fl2_3) (by unfold fp; rw [ho]; rfl) hd h
theorem pf2_3 {E : EV} {M : MT} {Q : Po} {pc o : Nat} {ls : List (Nat × Value)} {st : List Value} {μ : Mem} {x : Int32} (hM : M.1.cls = RX2) (ho : kd o = 2) (hd : decode M.2.1 pc = .ok (.putfield 26, 3)) (h : Ex E M Q (pc + 3) ls st (mI μ o 3 x)) : Ex E M Q pc ls (.int x :: .ref o :: st) μ :=
  x_putI (ci := 2) (k := 3) (ty := .int) tyX2 tyX2_ok nmX2 ho (by decide) rfl iG2 (by decide) (by rw [ln2 o ho]; decide) (by rw [hM]; exact fl2_3) rfl (by decide) (by decide +kernel) rfl rfl hd h
set_option maxRecDepth 20000 in
theorem fl2_4 : Cond.fieldLink RX2 33 (TX2 4).1 (TX2 4).2.1 (TX2 4).2.2.1 ∈ tbG := tbk1 78 rfl rfl
theorem gf2_4 {E : EV} {M : MT} {Q : Po} {pc o : Nat} {ls : List (Nat × Value)} {st : List Value} {μ : Mem} (hM : M.1.cls = RX2) (ho : kd o = 2) (hd : decode M.2.1 pc = .ok (.getfield 33, 3)) (h : Ex E M Q (pc + 3) ls (.int (μ.1 o 4) :: st) μ) : Ex E M Q pc ls (.ref o :: st) μ :=
  x_get (ci := 2) (k := 4) ho (by decide) rfl iG2 (by decide) (by rw [ln2 o ho]; decide) (by rw [hM]; exact fl2_4) (by unfold fp; rw [ho]; rfl) hd h
theorem pf2_4 {E : EV} {M : MT} {Q : Po} {pc o : Nat} {ls : List (Nat × Value)} {st : List Value} {μ : Mem} {x : Int32} (hM : M.1.cls = RX2) (ho : kd o = 2) (hd : decode M.2.1 pc = .ok (.putfield 33, 3)) (h : Ex E M Q (pc + 3) ls st (mI μ o 4 x)) : Ex E M Q pc ls (.int x :: .ref o :: st) μ :=
  x_putI (ci := 2) (k := 4) (ty := .int) tyX2 tyX2_ok nmX2 ho (by decide) rfl iG2 (by decide) (by rw [ln2 o ho]; decide) (by rw [hM]; exact fl2_4) rfl (by decide) (by decide +kernel) rfl rfl hd h
set_option maxRecDepth 20000 in
theorem fl2_5 : Cond.fieldLink RX2 36 (TX2 5).1 (TX2 5).2.1 (TX2 5).2.2.1 ∈ tbG := tbk1 79 rfl rfl
theorem gf2_5 {E : EV} {M : MT} {Q : Po} {pc o : Nat} {ls : List (Nat × Value)} {st : List Value} {μ : Mem} (hM : M.1.cls = RX2) (ho : kd o = 2) (hd : decode M.2.1 pc = .ok (.getfield 36, 3)) (h : Ex E M Q (pc + 3) ls (.int (μ.1 o 5) :: st) μ) : Ex E M Q pc ls (.ref o :: st) μ :=
  x_get (ci := 2) (k := 5) ho (by decide) rfl iG2 (by decide) (by rw [ln2 o ho]; decide) (by rw [hM]; exact fl2_5) (by unfold fp; rw [ho]; rfl) hd h
theorem pf2_5 {E : EV} {M : MT} {Q : Po} {pc o : Nat} {ls : List (Nat × Value)} {st : List Value} {μ : Mem} {x : Int32} (hM : M.1.cls = RX2) (ho : kd o = 2) (hd : decode M.2.1 pc = .ok (.putfield 36, 3)) (h : Ex E M Q (pc + 3) ls st (mI μ o 5 x)) : Ex E M Q pc ls (.int x :: .ref o :: st) μ :=
  x_putI (ci := 2) (k := 5) (ty := .int) tyX2 tyX2_ok nmX2 ho (by decide) rfl iG2 (by decide) (by rw [ln2 o ho]; decide) (by rw [hM]; exact fl2_5) rfl (by decide) (by decide +kernel) rfl rfl hd h
set_option maxRecDepth 20000 in
theorem fl3_0 : Cond.fieldLink RX3 9 (TX3 0).1 (TX3 0).2.1 (TX3 0).2.2.1 ∈ tbG := tbk1 31 rfl rfl
theorem gf3_0 {E : EV} {M : MT} {Q : Po} {pc o : Nat} {ls : List (Nat × Value)} {st : List Value} {μ : Mem} {r : Nat} (hM : M.1.cls = RX3) (ho : kd o = 3) (hr : rf o 0 = r) (hd : decode M.2.1 pc = .ok (.getfield 9, 3)) (h : Ex E M Q (pc + 3) ls (.ref r :: st) μ) : Ex E M Q pc ls (.ref o :: st) μ :=
  x_get (ci := 3) (k := 0) ho (by decide) rfl iG3 (by decide) (by rw [ln3 o ho]; decide) (by rw [hM]; exact fl3_0) (by unfold fp; rw [ho, hr]; rfl) hd h
set_option maxRecDepth 20000 in
theorem fl3_4 : Cond.fieldLink RX3 15 (TX3 4).1 (TX3 4).2.1 (TX3 4).2.2.1 ∈ tbG := tbk1 35 rfl rfl
theorem gf3_4 {E : EV} {M : MT} {Q : Po} {pc o : Nat} {ls : List (Nat × Value)} {st : List Value} {μ : Mem} (hM : M.1.cls = RX3) (ho : kd o = 3) (hd : decode M.2.1 pc = .ok (.getfield 15, 3)) (h : Ex E M Q (pc + 3) ls (.int (μ.1 o 4) :: st) μ) : Ex E M Q pc ls (.ref o :: st) μ :=
  x_get (ci := 3) (k := 4) ho (by decide) rfl iG3 (by decide) (by rw [ln3 o ho]; decide) (by rw [hM]; exact fl3_4) (by unfold fp; rw [ho]; rfl) hd h
theorem pf3_4 {E : EV} {M : MT} {Q : Po} {pc o : Nat} {ls : List (Nat × Value)} {st : List Value} {μ : Mem} {x : Int32} (hM : M.1.cls = RX3) (ho : kd o = 3) (hd : decode M.2.1 pc = .ok (.putfield 15, 3)) (h : Ex E M Q (pc + 3) ls st (mI μ o 4 x)) : Ex E M Q pc ls (.int x :: .ref o :: st) μ :=
  x_putI (ci := 3) (k := 4) (ty := .int) tyX3 tyX3_ok nmX3 ho (by decide) rfl iG3 (by decide) (by rw [ln3 o ho]; decide) (by rw [hM]; exact fl3_4) rfl (by decide) (by decide +kernel) rfl rfl hd h
set_option maxRecDepth 20000 in
theorem fl3_5 : Cond.fieldLink RX3 19 (TX3 5).1 (TX3 5).2.1 (TX3 5).2.2.1 ∈ tbG := tbk1 36 rfl rfl
theorem gf3_5 {E : EV} {M : MT} {Q : Po} {pc o : Nat} {ls : List (Nat × Value)} {st : List Value} {μ : Mem} (hM : M.1.cls = RX3) (ho : kd o = 3) (hd : decode M.2.1 pc = .ok (.getfield 19, 3)) (h : Ex E M Q (pc + 3) ls (.int (μ.1 o 5) :: st) μ) : Ex E M Q pc ls (.ref o :: st) μ :=
  x_get (ci := 3) (k := 5) ho (by decide) rfl iG3 (by decide) (by rw [ln3 o ho]; decide) (by rw [hM]; exact fl3_5) (by unfold fp; rw [ho]; rfl) hd h
theorem pf3_5 {E : EV} {M : MT} {Q : Po} {pc o : Nat} {ls : List (Nat × Value)} {st : List Value} {μ : Mem} {x : Int32} (hM : M.1.cls = RX3) (ho : kd o = 3) (hd : decode M.2.1 pc = .ok (.putfield 19, 3)) (h : Ex E M Q (pc + 3) ls st (mI μ o 5 x)) : Ex E M Q pc ls (.int x :: .ref o :: st) μ :=
  x_putI (ci := 3) (k := 5) (ty := .int) tyX3 tyX3_ok nmX3 ho (by decide) rfl iG3 (by decide) (by rw [ln3 o ho]; decide) (by rw [hM]; exact fl3_5) rfl (by decide) (by decide +kernel) rfl rfl hd h
set_option maxRecDepth 20000 in
theorem fl3_1 : Cond.fieldLink RX3 35 (TX3 1).1 (TX3 1).2.1 (TX3 1).2.2.1 ∈ tbG := tbk1 32 rfl rfl
theorem gf3_1 {E : EV} {M : MT} {Q : Po} {pc o : Nat} {ls : List (Nat × Value)} {st : List Value} {μ : Mem} (hM : M.1.cls = RX3) (ho : kd o = 3) (hd : decode M.2.1 pc = .ok (.getfield 35, 3)) (h : Ex E M Q (pc + 3) ls (.int (μ.1 o 1) :: st) μ) : Ex E M Q pc ls (.ref o :: st) μ :=
  x_get (ci := 3) (k := 1) ho (by decide) rfl iG3 (by decide) (by rw [ln3 o ho]; decide) (by rw [hM]; exact fl3_1) (by unfold fp; rw [ho]; rfl) hd h
theorem pf3_1 {E : EV} {M : MT} {Q : Po} {pc o : Nat} {ls : List (Nat × Value)} {st : List Value} {μ : Mem} {x : Int32} (hM : M.1.cls = RX3) (ho : kd o = 3) (hd : decode M.2.1 pc = .ok (.putfield 35, 3)) (h : Ex E M Q (pc + 3) ls st (mI μ o 1 x)) : Ex E M Q pc ls (.int x :: .ref o :: st) μ :=
  x_putI (ci := 3) (k := 1) (ty := .int) tyX3 tyX3_ok nmX3 ho (by decide) rfl iG3 (by decide) (by rw [ln3 o ho]; decide) (by rw [hM]; exact fl3_1) rfl (by decide) (by decide +kernel) rfl rfl hd h
set_option maxRecDepth 20000 in
theorem fl3_2 : Cond.fieldLink RX3 38 (TX3 2).1 (TX3 2).2.1 (TX3 2).2.2.1 ∈ tbG := tbk1 33 rfl rfl
theorem gf3_2 {E : EV} {M : MT} {Q : Po} {pc o : Nat} {ls : List (Nat × Value)} {st : List Value} {μ : Mem} (hM : M.1.cls = RX3) (ho : kd o = 3) (hd : decode M.2.1 pc = .ok (.getfield 38, 3)) (h : Ex E M Q (pc + 3) ls (.int (μ.1 o 2) :: st) μ) : Ex E M Q pc ls (.ref o :: st) μ :=
  x_get (ci := 3) (k := 2) ho (by decide) rfl iG3 (by decide) (by rw [ln3 o ho]; decide) (by rw [hM]; exact fl3_2) (by unfold fp; rw [ho]; rfl) hd h
theorem pf3_2 {E : EV} {M : MT} {Q : Po} {pc o : Nat} {ls : List (Nat × Value)} {st : List Value} {μ : Mem} {x : Int32} (hM : M.1.cls = RX3) (ho : kd o = 3) (hd : decode M.2.1 pc = .ok (.putfield 38, 3)) (h : Ex E M Q (pc + 3) ls st (mI μ o 2 x)) : Ex E M Q pc ls (.int x :: .ref o :: st) μ :=
  x_putI (ci := 3) (k := 2) (ty := .int) tyX3 tyX3_ok nmX3 ho (by decide) rfl iG3 (by decide) (by rw [ln3 o ho]; decide) (by rw [hM]; exact fl3_2) rfl (by decide) (by decide +kernel) rfl rfl hd h
set_option maxRecDepth 20000 in
theorem fl3_3 : Cond.fieldLink RX3 59 (TX3 3).1 (TX3 3).2.1 (TX3 3).2.2.1 ∈ tbG := tbk1 34 rfl rfl
theorem gf3_3 {E : EV} {M : MT} {Q : Po} {pc o : Nat} {ls : List (Nat × Value)} {st : List Value} {μ : Mem} (hM : M.1.cls = RX3) (ho : kd o = 3) (hd : decode M.2.1 pc = .ok (.getfield 59, 3)) (h : Ex E M Q (pc + 3) ls (.int (μ.1 o 3) :: st) μ) : Ex E M Q pc ls (.ref o :: st) μ :=
  x_get (ci := 3) (k := 3) ho (by decide) rfl iG3 (by decide) (by rw [ln3 o ho]; decide) (by rw [hM]; exact fl3_3) (by unfold fp; rw [ho]; rfl) hd h
theorem pf3_3 {E : EV} {M : MT} {Q : Po} {pc o : Nat} {ls : List (Nat × Value)} {st : List Value} {μ : Mem} {x : Int32} (hM : M.1.cls = RX3) (ho : kd o = 3) (hd : decode M.2.1 pc = .ok (.putfield 59, 3)) (h : Ex E M Q (pc + 3) ls st (mI μ o 3 x)) : Ex E M Q pc ls (.int x :: .ref o :: st) μ :=
  x_putI (ci := 3) (k := 3) (ty := .int) tyX3 tyX3_ok nmX3 ho (by decide) rfl iG3 (by decide) (by rw [ln3 o ho]; decide) (by rw [hM]; exact fl3_3) rfl (by decide) (by decide +kernel) rfl rfl hd h
set_option maxRecDepth 20000 in
theorem fl4_0 : Cond.fieldLink RX4 9 (TX4 0).1 (TX4 0).2.1 (TX4 0).2.2.1 ∈ tbG := tbk1 196 rfl rfl
theorem gf4_0 {E : EV} {M : MT} {Q : Po} {pc o : Nat} {ls : List (Nat × Value)} {st : List Value} {μ : Mem} {r : Nat} (hM : M.1.cls = RX4) (ho : kd o = 4) (hr : rf o 0 = r) (hd : decode M.2.1 pc = .ok (.getfield 9, 3)) (h : Ex E M Q (pc + 3) ls (.ref r :: st) μ) : Ex E M Q pc ls (.ref o :: st) μ :=
  x_get (ci := 4) (k := 0) ho (by decide) rfl iG4 (by decide) (by rw [ln4 o ho]; decide) (by rw [hM]; exact fl4_0) (by unfold fp; rw [ho, hr]; rfl) hd h
set_option maxRecDepth 20000 in
theorem fl4_1 : Cond.fieldLink RX4 15 (TX4 1).1 (TX4 1).2.1 (TX4 1).2.2.1 ∈ tbG := tbk1 197 rfl rfl
theorem gf4_1 {E : EV} {M : MT} {Q : Po} {pc o : Nat} {ls : List (Nat × Value)} {st : List Value} {μ : Mem} {r : Nat} (hM : M.1.cls = RX4) (ho : kd o = 4) (hr : rf o 1 = r) (hd : decode M.2.1 pc = .ok (.getfield 15, 3)) (h : Ex E M Q (pc + 3) ls (.ref r :: st) μ) : Ex E M Q pc ls (.ref o :: st) μ :=
  x_get (ci := 4) (k := 1) ho (by decide) rfl iG4 (by decide) (by rw [ln4 o ho]; decide) (by rw [hM]; exact fl4_1) (by unfold fp; rw [ho, hr]; rfl) hd h
set_option maxRecDepth 20000 in
theorem fl4_2 : Cond.fieldLink RX4 18 (TX4 2).1 (TX4 2).2.1 (TX4 2).2.2.1 ∈ tbG := tbk1 198 rfl rfl
theorem gf4_2 {E : EV} {M : MT} {Q : Po} {pc o : Nat} {ls : List (Nat × Value)} {st : List Value} {μ : Mem} {r : Nat} (hM : M.1.cls = RX4) (ho : kd o = 4) (hr : rf o 2 = r) (hd : decode M.2.1 pc = .ok (.getfield 18, 3)) (h : Ex E M Q (pc + 3) ls (.ref r :: st) μ) : Ex E M Q pc ls (.ref o :: st) μ :=
  x_get (ci := 4) (k := 2) ho (by decide) rfl iG4 (by decide) (by rw [ln4 o ho]; decide) (by rw [hM]; exact fl4_2) (by unfold fp; rw [ho, hr]; rfl) hd h
set_option maxRecDepth 20000 in
theorem fl4_3 : Cond.fieldLink RX4 21 (TX4 3).1 (TX4 3).2.1 (TX4 3).2.2.1 ∈ tbG := tbk1 199 rfl rfl
theorem gf4_3 {E : EV} {M : MT} {Q : Po} {pc o : Nat} {ls : List (Nat × Value)} {st : List Value} {μ : Mem} {r : Nat} (hM : M.1.cls = RX4) (ho : kd o = 4) (hr : rf o 3 = r) (hd : decode M.2.1 pc = .ok (.getfield 21, 3)) (h : Ex E M Q (pc + 3) ls (.ref r :: st) μ) : Ex E M Q pc ls (.ref o :: st) μ :=
  x_get (ci := 4) (k := 3) ho (by decide) rfl iG4 (by decide) (by rw [ln4 o ho]; decide) (by rw [hM]; exact fl4_3) (by unfold fp; rw [ho, hr]; rfl) hd h
set_option maxRecDepth 20000 in
theorem fl4_4 : Cond.fieldLink RX4 24 (TX4 4).1 (TX4 4).2.1 (TX4 4).2.2.1 ∈ tbG := tbk1 200 rfl rfl
theorem gf4_4 {E : EV} {M : MT} {Q : Po} {pc o : Nat} {ls : List (Nat × Value)} {st : List Value} {μ : Mem} (hM : M.1.cls = RX4) (ho : kd o = 4) (hd : decode M.2.1 pc = .ok (.getfield 24, 3)) (h : Ex E M Q (pc + 3) ls (.int (μ.1 o 4) :: st) μ) : Ex E M Q pc ls (.ref o :: st) μ :=
  x_get (ci := 4) (k := 4) ho (by decide) rfl iG4 (by decide) (by rw [ln4 o ho]; decide) (by rw [hM]; exact fl4_4) (by unfold fp; rw [ho]; rfl) hd h
theorem pf4_4 {E : EV} {M : MT} {Q : Po} {pc o : Nat} {ls : List (Nat × Value)} {st : List Value} {μ : Mem} {x : Int32} (hM : M.1.cls = RX4) (ho : kd o = 4) (hd : decode M.2.1 pc = .ok (.putfield 24, 3)) (h : Ex E M Q (pc + 3) ls st (mI μ o 4 x)) : Ex E M Q pc ls (.int x :: .ref o :: st) μ :=
  x_putI (ci := 4) (k := 4) (ty := .int) tyX4 tyX4_ok nmX4 ho (by decide) rfl iG4 (by decide) (by rw [ln4 o ho]; decide) (by rw [hM]; exact fl4_4) rfl (by decide) (by decide +kernel) rfl rfl hd h
set_option maxRecDepth 20000 in
theorem fl5_0 : Cond.fieldLink RX5 9 (TX5 0).1 (TX5 0).2.1 (TX5 0).2.2.1 ∈ tbG := tbk1 59 rfl rfl
theorem gf5_0 {E : EV} {M : MT} {Q : Po} {pc o : Nat} {ls : List (Nat × Value)} {st : List Value} {μ : Mem} {r : Nat} (hM : M.1.cls = RX5) (ho : kd o = 5) (hr : rf o 0 = r) (hd : decode M.2.1 pc = .ok (.getfield 9, 3)) (h : Ex E M Q (pc + 3) ls (.ref r :: st) μ) : Ex E M Q pc ls (.ref o :: st) μ :=
  x_get (ci := 5) (k := 0) ho (by decide) rfl iG5 (by decide) (by rw [ln5 o ho]; decide) (by rw [hM]; exact fl5_0) (by unfold fp; rw [ho, hr]; rfl) hd h
set_option maxRecDepth 20000 in
theorem fl5_1 : Cond.fieldLink RX5 15 (TX5 1).1 (TX5 1).2.1 (TX5 1).2.2.1 ∈ tbG := tbk1 60 rfl rfl
theorem gf5_1 {E : EV} {M : MT} {Q : Po} {pc o : Nat} {ls : List (Nat × Value)} {st : List Value} {μ : Mem} (hM : M.1.cls = RX5) (ho : kd o = 5) (hd : decode M.2.1 pc = .ok (.getfield 15, 3)) (h : Ex E M Q (pc + 3) ls (.int (μ.1 o 1) :: st) μ) : Ex E M Q pc ls (.ref o :: st) μ :=
  x_get (ci := 5) (k := 1) ho (by decide) rfl iG5 (by decide) (by rw [ln5 o ho]; decide) (by rw [hM]; exact fl5_1) (by unfold fp; rw [ho]; rfl) hd h
theorem pf5_1 {E : EV} {M : MT} {Q : Po} {pc o : Nat} {ls : List (Nat × Value)} {st : List Value} {μ : Mem} {x : Int32} (hM : M.1.cls = RX5) (ho : kd o = 5) (hd : decode M.2.1 pc = .ok (.putfield 15, 3)) (h : Ex E M Q (pc + 3) ls st (mI μ o 1 x)) : Ex E M Q pc ls (.int x :: .ref o :: st) μ :=
  x_putI (ci := 5) (k := 1) (ty := .int) tyX5 tyX5_ok nmX5 ho (by decide) rfl iG5 (by decide) (by rw [ln5 o ho]; decide) (by rw [hM]; exact fl5_1) rfl (by decide) (by decide +kernel) rfl rfl hd h
set_option maxRecDepth 20000 in
theorem fl6_1 : Cond.fieldLink RX6 12 (TX6 1).1 (TX6 1).2.1 (TX6 1).2.2.1 ∈ tbG := tbk1 118 rfl rfl
theorem gf6_1 {E : EV} {M : MT} {Q : Po} {pc o : Nat} {ls : List (Nat × Value)} {st : List Value} {μ : Mem} {r : Nat} (hM : M.1.cls = RX6) (ho : kd o = 6) (hr : rf o 1 = r) (hd : decode M.2.1 pc = .ok (.getfield 12, 3)) (h : Ex E M Q (pc + 3) ls (.ref r :: st) μ) : Ex E M Q pc ls (.ref o :: st) μ :=
  x_get (ci := 6) (k := 1) ho (by decide) rfl iG6 (by decide) (by rw [ln6 o ho]; decide) (by rw [hM]; exact fl6_1) (by unfold fp; rw [ho, hr]; rfl) hd h
set_option maxRecDepth 20000 in
theorem fl6_2 : Cond.fieldLink RX6 18 (TX6 2).1 (TX6 2).2.1 (TX6 2).2.2.1 ∈ tbG := tbk1 119 rfl rfl
theorem gf6_2 {E : EV} {M : MT} {Q : Po} {pc o : Nat} {ls : List (Nat × Value)} {st : List Value} {μ : Mem} {r : Nat} (hM : M.1.cls = RX6) (ho : kd o = 6) (hr : rf o 2 = r) (hd : decode M.2.1 pc = .ok (.getfield 18, 3)) (h : Ex E M Q (pc + 3) ls (.ref r :: st) μ) : Ex E M Q pc ls (.ref o :: st) μ :=
  x_get (ci := 6) (k := 2) ho (by decide) rfl iG6 (by decide) (by rw [ln6 o ho]; decide) (by rw [hM]; exact fl6_2) (by unfold fp; rw [ho, hr]; rfl) hd h
set_option maxRecDepth 20000 in
theorem fl6_4 : Cond.fieldLink RX6 22 (TX6 4).1 (TX6 4).2.1 (TX6 4).2.2.1 ∈ tbG := tbk1 121 rfl rfl
theorem gf6_4 {E : EV} {M : MT} {Q : Po} {pc o : Nat} {ls : List (Nat × Value)} {st : List Value} {μ : Mem} {r : Nat} (hM : M.1.cls = RX6) (ho : kd o = 6) (hr : rf o 4 = r) (hd : decode M.2.1 pc = .ok (.getfield 22, 3)) (h : Ex E M Q (pc + 3) ls (.ref r :: st) μ) : Ex E M Q pc ls (.ref o :: st) μ :=
  x_get (ci := 6) (k := 4) ho (by decide) rfl iG6 (by decide) (by rw [ln6 o ho]; decide) (by rw [hM]; exact fl6_4) (by unfold fp; rw [ho, hr]; rfl) hd h
set_option maxRecDepth 20000 in
theorem fl6_5 : Cond.fieldLink RX6 26 (TX6 5).1 (TX6 5).2.1 (TX6 5).2.2.1 ∈ tbG := tbk1 122 rfl rfl
theorem gf6_5 {E : EV} {M : MT} {Q : Po} {pc o : Nat} {ls : List (Nat × Value)} {st : List Value} {μ : Mem} {r : Nat} (hM : M.1.cls = RX6) (ho : kd o = 6) (hr : rf o 5 = r) (hd : decode M.2.1 pc = .ok (.getfield 26, 3)) (h : Ex E M Q (pc + 3) ls (.ref r :: st) μ) : Ex E M Q pc ls (.ref o :: st) μ :=
  x_get (ci := 6) (k := 5) ho (by decide) rfl iG6 (by decide) (by rw [ln6 o ho]; decide) (by rw [hM]; exact fl6_5) (by unfold fp; rw [ho, hr]; rfl) hd h
set_option maxRecDepth 20000 in
theorem fl6_0 : Cond.fieldLink RX6 29 (TX6 0).1 (TX6 0).2.1 (TX6 0).2.2.1 ∈ tbG := tbk1 117 rfl rfl
theorem gf6_0 {E : EV} {M : MT} {Q : Po} {pc o : Nat} {ls : List (Nat × Value)} {st : List Value} {μ : Mem} {r : Nat} (hM : M.1.cls = RX6) (ho : kd o = 6) (hr : rf o 0 = r) (hd : decode M.2.1 pc = .ok (.getfield 29, 3)) (h : Ex E M Q (pc + 3) ls (.ref r :: st) μ) : Ex E M Q pc ls (.ref o :: st) μ :=
  x_get (ci := 6) (k := 0) ho (by decide) rfl iG6 (by decide) (by rw [ln6 o ho]; decide) (by rw [hM]; exact fl6_0) (by unfold fp; rw [ho, hr]; rfl) hd h
set_option maxRecDepth 20000 in
theorem fl6_3 : Cond.fieldLink RX6 43 (TX6 3).1 (TX6 3).2.1 (TX6 3).2.2.1 ∈ tbG := tbk1 120 rfl rfl
theorem gf6_3 {E : EV} {M : MT} {Q : Po} {pc o : Nat} {ls : List (Nat × Value)} {st : List Value} {μ : Mem} (hM : M.1.cls = RX6) (ho : kd o = 6) (hd : decode M.2.1 pc = .ok (.getfield 43, 3)) (h : Ex E M Q (pc + 3) ls (.int (μ.1 o 3) :: st) μ) : Ex E M Q pc ls (.ref o :: st) μ :=
  x_get (ci := 6) (k := 3) ho (by decide) rfl iG6 (by decide) (by rw [ln6 o ho]; decide) (by rw [hM]; exact fl6_3) (by unfold fp; rw [ho]; rfl) hd h
theorem pf6_3 {E : EV} {M : MT} {Q : Po} {pc o : Nat} {ls : List (Nat × Value)} {st : List Value} {μ : Mem} {x : Int32} (hM : M.1.cls = RX6) (ho : kd o = 6) (hd : decode M.2.1 pc = .ok (.putfield 43, 3)) (h : Ex E M Q (pc + 3) ls st (mI μ o 3 x)) : Ex E M Q pc ls (.int x :: .ref o :: st) μ :=
  x_putI (ci := 6) (k := 3) (ty := .int) tyX6 tyX6_ok nmX6 ho (by decide) rfl iG6 (by decide) (by rw [ln6 o ho]; decide) (by rw [hM]; exact fl6_3) rfl (by decide) (by decide +kernel) rfl rfl hd h
set_option maxRecDepth 20000 in
theorem fl7_0 : Cond.fieldLink RX7 11 (TX7 0).1 (TX7 0).2.1 (TX7 0).2.2.1 ∈ tbG := tbk1 224 rfl rfl
theorem gf7_0 {E : EV} {M : MT} {Q : Po} {pc o : Nat} {ls : List (Nat × Value)} {st : List Value} {μ : Mem} {r : Nat} (hM : M.1.cls = RX7) (ho : kd o = 7) (hr : rf o 0 = r) (hd : decode M.2.1 pc = .ok (.getfield 11, 3)) (h : Ex E M Q (pc + 3) ls (.ref r :: st) μ) : Ex E M Q pc ls (.ref o :: st) μ :=
  x_get (ci := 7) (k := 0) ho (by decide) rfl iG7 (by decide) (by rw [ln7 o ho]; decide) (by rw [hM]; exact fl7_0) (by unfold fp; rw [ho, hr]; rfl) hd h
set_option maxRecDepth 20000 in
theorem fl7_1 : Cond.fieldLink RX7 16 (TX7 1).1 (TX7 1).2.1 (TX7 1).2.2.1 ∈ tbG := tbk1 225 rfl rfl
theorem gf7_1 {E : EV} {M : MT} {Q : Po} {pc o : Nat} {ls : List (Nat × Value)} {st : List Value} {μ : Mem} {r : Nat} (hM : M.1.cls = RX7) (ho : kd o = 7) (hr : rf o 1 = r) (hd : decode M.2.1 pc = .ok (.getfield 16, 3)) (h : Ex E M Q (pc + 3) ls (.ref r :: st) μ) : Ex E M Q pc ls (.ref o :: st) μ :=
  x_get (ci := 7) (k := 1) ho (by decide) rfl iG7 (by decide) (by rw [ln7 o ho]; decide) (by rw [hM]; exact fl7_1) (by unfold fp; rw [ho, hr]; rfl) hd h
set_option maxRecDepth 20000 in
theorem fl7_2 : Cond.fieldLink RX7 20 (TX7 2).1 (TX7 2).2.1 (TX7 2).2.2.1 ∈ tbG := tbk1 226 rfl rfl
theorem gf7_2 {E : EV} {M : MT} {Q : Po} {pc o : Nat} {ls : List (Nat × Value)} {st : List Value} {μ : Mem} {r : Nat} (hM : M.1.cls = RX7) (ho : kd o = 7) (hr : rf o 2 = r) (hd : decode M.2.1 pc = .ok (.getfield 20, 3)) (h : Ex E M Q (pc + 3) ls (.ref r :: st) μ) : Ex E M Q pc ls (.ref o :: st) μ :=
  x_get (ci := 7) (k := 2) ho (by decide) rfl iG7 (by decide) (by rw [ln7 o ho]; decide) (by rw [hM]; exact fl7_2) (by unfold fp; rw [ho, hr]; rfl) hd h
set_option maxRecDepth 20000 in
theorem fl7_3 : Cond.fieldLink RX7 29 (TX7 3).1 (TX7 3).2.1 (TX7 3).2.2.1 ∈ tbG := tbk1 227 rfl rfl
theorem gf7_3 {E : EV} {M : MT} {Q : Po} {pc o : Nat} {ls : List (Nat × Value)} {st : List Value} {μ : Mem} (hM : M.1.cls = RX7) (ho : kd o = 7) (hd : decode M.2.1 pc = .ok (.getfield 29, 3)) (h : Ex E M Q (pc + 3) ls (.int (μ.1 o 3) :: st) μ) : Ex E M Q pc ls (.ref o :: st) μ :=
  x_get (ci := 7) (k := 3) ho (by decide) rfl iG7 (by decide) (by rw [ln7 o ho]; decide) (by rw [hM]; exact fl7_3) (by unfold fp; rw [ho]; rfl) hd h
theorem pf7_3 {E : EV} {M : MT} {Q : Po} {pc o : Nat} {ls : List (Nat × Value)} {st : List Value} {μ : Mem} {x : Int32} (hM : M.1.cls = RX7) (ho : kd o = 7) (hd : decode M.2.1 pc = .ok (.putfield 29, 3)) (h : Ex E M Q (pc + 3) ls st (mI μ o 3 x)) : Ex E M Q pc ls (.int x :: .ref o :: st) μ :=
  x_putI (ci := 7) (k := 3) (ty := .int) tyX7 tyX7_ok nmX7 ho (by decide) rfl iG7 (by decide) (by rw [ln7 o ho]; decide) (by rw [hM]; exact fl7_3) rfl (by decide) (by decide +kernel) rfl rfl hd h
set_option maxRecDepth 20000 in
theorem fl8_0 : Cond.fieldLink RX8 9 (TX8 0).1 (TX8 0).2.1 (TX8 0).2.2.1 ∈ tbG := tbk2 5 rfl rfl
theorem gf8_0 {E : EV} {M : MT} {Q : Po} {pc o : Nat} {ls : List (Nat × Value)} {st : List Value} {μ : Mem} {r : Nat} (hM : M.1.cls = RX8) (ho : kd o = 8) (hr : rf o 0 = r) (hd : decode M.2.1 pc = .ok (.getfield 9, 3)) (h : Ex E M Q (pc + 3) ls (.ref r :: st) μ) : Ex E M Q pc ls (.ref o :: st) μ :=
  x_get (ci := 8) (k := 0) ho (by decide) rfl iG8 (by decide) (by rw [ln8 o ho]; decide) (by rw [hM]; exact fl8_0) (by unfold fp; rw [ho, hr]; rfl) hd h
set_option maxRecDepth 20000 in
theorem fl8_1 : Cond.fieldLink RX8 21 (TX8 1).1 (TX8 1).2.1 (TX8 1).2.2.1 ∈ tbG := tbk2 6 rfl rfl
theorem gf8_1 {E : EV} {M : MT} {Q : Po} {pc o : Nat} {ls : List (Nat × Value)} {st : List Value} {μ : Mem} (hM : M.1.cls = RX8) (ho : kd o = 8) (hd : decode M.2.1 pc = .ok (.getfield 21, 3)) (h : Ex E M Q (pc + 3) ls (.int (μ.1 o 1) :: st) μ) : Ex E M Q pc ls (.ref o :: st) μ :=
  x_get (ci := 8) (k := 1) ho (by decide) rfl iG8 (by decide) (by rw [ln8 o ho]; decide) (by rw [hM]; exact fl8_1) (by unfold fp; rw [ho]; rfl) hd h
set_option maxRecDepth 20000 in
theorem fl8_2 : Cond.fieldLink RX8 25 (TX8 2).1 (TX8 2).2.1 (TX8 2).2.2.1 ∈ tbG := tbk2 7 rfl rfl
theorem gf8_2 {E : EV} {M : MT} {Q : Po} {pc o : Nat} {ls : List (Nat × Value)} {st : List Value} {μ : Mem} (hM : M.1.cls = RX8) (ho : kd o = 8) (hd : decode M.2.1 pc = .ok (.getfield 25, 3)) (h : Ex E M Q (pc + 3) ls (.int (μ.1 o 2) :: st) μ) : Ex E M Q pc ls (.ref o :: st) μ :=
  x_get (ci := 8) (k := 2) ho (by decide) rfl iG8 (by decide) (by rw [ln8 o ho]; decide) (by rw [hM]; exact fl8_2) (by unfold fp; rw [ho]; rfl) hd h
theorem pf8_2 {E : EV} {M : MT} {Q : Po} {pc o : Nat} {ls : List (Nat × Value)} {st : List Value} {μ : Mem} {x : Int32} (hM : M.1.cls = RX8) (ho : kd o = 8) (hd : decode M.2.1 pc = .ok (.putfield 25, 3)) (h : Ex E M Q (pc + 3) ls st (mI μ o 2 x)) : Ex E M Q pc ls (.int x :: .ref o :: st) μ :=
  x_putI (ci := 8) (k := 2) (ty := .int) tyX8 tyX8_ok nmX8 ho (by decide) rfl iG8 (by decide) (by rw [ln8 o ho]; decide) (by rw [hM]; exact fl8_2) rfl (by decide) (by decide +kernel) rfl rfl hd h
set_option maxRecDepth 20000 in
theorem fl9_1 : Cond.fieldLink RX9 12 (TX9 1).1 (TX9 1).2.1 (TX9 1).2.2.1 ∈ tbG := tbk1 169 rfl rfl
theorem gf9_1 {E : EV} {M : MT} {Q : Po} {pc o : Nat} {ls : List (Nat × Value)} {st : List Value} {μ : Mem} {r : Nat} (hM : M.1.cls = RX9) (ho : kd o = 9) (hr : rf o 1 = r) (hd : decode M.2.1 pc = .ok (.getfield 12, 3)) (h : Ex E M Q (pc + 3) ls (.ref r :: st) μ) : Ex E M Q pc ls (.ref o :: st) μ :=
  x_get (ci := 9) (k := 1) ho (by decide) rfl iG9 (by decide) (by rw [ln9 o ho]; decide) (by rw [hM]; exact fl9_1) (by unfold fp; rw [ho, hr]; rfl) hd h
set_option maxRecDepth 20000 in
theorem fl9_2 : Cond.fieldLink RX9 18 (TX9 2).1 (TX9 2).2.1 (TX9 2).2.2.1 ∈ tbG := tbk1 170 rfl rfl
theorem gf9_2 {E : EV} {M : MT} {Q : Po} {pc o : Nat} {ls : List (Nat × Value)} {st : List Value} {μ : Mem} {r : Nat} (hM : M.1.cls = RX9) (ho : kd o = 9) (hr : rf o 2 = r) (hd : decode M.2.1 pc = .ok (.getfield 18, 3)) (h : Ex E M Q (pc + 3) ls (.ref r :: st) μ) : Ex E M Q pc ls (.ref o :: st) μ :=
  x_get (ci := 9) (k := 2) ho (by decide) rfl iG9 (by decide) (by rw [ln9 o ho]; decide) (by rw [hM]; exact fl9_2) (by unfold fp; rw [ho, hr]; rfl) hd h
set_option maxRecDepth 20000 in
theorem fl9_3 : Cond.fieldLink RX9 24 (TX9 3).1 (TX9 3).2.1 (TX9 3).2.2.1 ∈ tbG := tbk1 171 rfl rfl
theorem gf9_3 {E : EV} {M : MT} {Q : Po} {pc o : Nat} {ls : List (Nat × Value)} {st : List Value} {μ : Mem} {r : Nat} (hM : M.1.cls = RX9) (ho : kd o = 9) (hr : rf o 3 = r) (hd : decode M.2.1 pc = .ok (.getfield 24, 3)) (h : Ex E M Q (pc + 3) ls (.ref r :: st) μ) : Ex E M Q pc ls (.ref o :: st) μ :=
  x_get (ci := 9) (k := 3) ho (by decide) rfl iG9 (by decide) (by rw [ln9 o ho]; decide) (by rw [hM]; exact fl9_3) (by unfold fp; rw [ho, hr]; rfl) hd h
set_option maxRecDepth 20000 in
theorem fl9_4 : Cond.fieldLink RX9 27 (TX9 4).1 (TX9 4).2.1 (TX9 4).2.2.1 ∈ tbG := tbk1 172 rfl rfl
theorem gf9_4 {E : EV} {M : MT} {Q : Po} {pc o : Nat} {ls : List (Nat × Value)} {st : List Value} {μ : Mem} {r : Nat} (hM : M.1.cls = RX9) (ho : kd o = 9) (hr : rf o 4 = r) (hd : decode M.2.1 pc = .ok (.getfield 27, 3)) (h : Ex E M Q (pc + 3) ls (.ref r :: st) μ) : Ex E M Q pc ls (.ref o :: st) μ :=
  x_get (ci := 9) (k := 4) ho (by decide) rfl iG9 (by decide) (by rw [ln9 o ho]; decide) (by rw [hM]; exact fl9_4) (by unfold fp; rw [ho, hr]; rfl) hd h
set_option maxRecDepth 20000 in
theorem fl9_5 : Cond.fieldLink RX9 31 (TX9 5).1 (TX9 5).2.1 (TX9 5).2.2.1 ∈ tbG := tbk1 173 rfl rfl
theorem gf9_5 {E : EV} {M : MT} {Q : Po} {pc o : Nat} {ls : List (Nat × Value)} {st : List Value} {μ : Mem} {r : Nat} (hM : M.1.cls = RX9) (ho : kd o = 9) (hr : rf o 5 = r) (hd : decode M.2.1 pc = .ok (.getfield 31, 3)) (h : Ex E M Q (pc + 3) ls (.ref r :: st) μ) : Ex E M Q pc ls (.ref o :: st) μ :=
  x_get (ci := 9) (k := 5) ho (by decide) rfl iG9 (by decide) (by rw [ln9 o ho]; decide) (by rw [hM]; exact fl9_5) (by unfold fp; rw [ho, hr]; rfl) hd h
set_option maxRecDepth 20000 in
theorem fl9_6 : Cond.fieldLink RX9 34 (TX9 6).1 (TX9 6).2.1 (TX9 6).2.2.1 ∈ tbG := tbk1 174 rfl rfl
theorem gf9_6 {E : EV} {M : MT} {Q : Po} {pc o : Nat} {ls : List (Nat × Value)} {st : List Value} {μ : Mem} {r : Nat} (hM : M.1.cls = RX9) (ho : kd o = 9) (hr : rf o 6 = r) (hd : decode M.2.1 pc = .ok (.getfield 34, 3)) (h : Ex E M Q (pc + 3) ls (.ref r :: st) μ) : Ex E M Q pc ls (.ref o :: st) μ :=
  x_get (ci := 9) (k := 6) ho (by decide) rfl iG9 (by decide) (by rw [ln9 o ho]; decide) (by rw [hM]; exact fl9_6) (by unfold fp; rw [ho, hr]; rfl) hd h
set_option maxRecDepth 20000 in
theorem fl9_0 : Cond.fieldLink RX9 37 (TX9 0).1 (TX9 0).2.1 (TX9 0).2.2.1 ∈ tbG := tbk1 168 rfl rfl
theorem gf9_0 {E : EV} {M : MT} {Q : Po} {pc o : Nat} {ls : List (Nat × Value)} {st : List Value} {μ : Mem} {r : Nat} (hM : M.1.cls = RX9) (ho : kd o = 9) (hr : rf o 0 = r) (hd : decode M.2.1 pc = .ok (.getfield 37, 3)) (h : Ex E M Q (pc + 3) ls (.ref r :: st) μ) : Ex E M Q pc ls (.ref o :: st) μ :=
  x_get (ci := 9) (k := 0) ho (by decide) rfl iG9 (by decide) (by rw [ln9 o ho]; decide) (by rw [hM]; exact fl9_0) (by unfold fp; rw [ho, hr]; rfl) hd h
set_option maxRecDepth 20000 in
theorem fl11_0 : Cond.fieldLink RX11 7 (TX11 0).1 (TX11 0).2.1 (TX11 0).2.2.1 ∈ tbG := tbk5 64 rfl rfl
theorem gf11_0 {E : EV} {M : MT} {Q : Po} {pc o : Nat} {ls : List (Nat × Value)} {st : List Value} {μ : Mem} {r : Nat} (hM : M.1.cls = RX11) (ho : kd o = 11) (hr : rf o 0 = r) (hd : decode M.2.1 pc = .ok (.getfield 7, 3)) (h : Ex E M Q (pc + 3) ls (.ref r :: st) μ) : Ex E M Q pc ls (.ref o :: st) μ :=
  x_get (ci := 11) (k := 0) ho (by decide) rfl iG11 (by decide) (by rw [ln11 o ho]; decide) (by rw [hM]; exact fl11_0) (by unfold fp; rw [ho, hr]; rfl) hd h
set_option maxRecDepth 20000 in
theorem fl11_1 : Cond.fieldLink RX11 13 (TX11 1).1 (TX11 1).2.1 (TX11 1).2.2.1 ∈ tbG := tbk5 65 rfl rfl
theorem gf11_1 {E : EV} {M : MT} {Q : Po} {pc o : Nat} {ls : List (Nat × Value)} {st : List Value} {μ : Mem} {r : Nat} (hM : M.1.cls = RX11) (ho : kd o = 11) (hr : rf o 1 = r) (hd : decode M.2.1 pc = .ok (.getfield 13, 3)) (h : Ex E M Q (pc + 3) ls (.ref r :: st) μ) : Ex E M Q pc ls (.ref o :: st) μ :=
  x_get (ci := 11) (k := 1) ho (by decide) rfl iG11 (by decide) (by rw [ln11 o ho]; decide) (by rw [hM]; exact fl11_1) (by unfold fp; rw [ho, hr]; rfl) hd h
set_option maxRecDepth 20000 in
theorem fl11_2 : Cond.fieldLink RX11 16 (TX11 2).1 (TX11 2).2.1 (TX11 2).2.2.1 ∈ tbG := tbk5 66 rfl rfl
theorem gf11_2 {E : EV} {M : MT} {Q : Po} {pc o : Nat} {ls : List (Nat × Value)} {st : List Value} {μ : Mem} {r : Nat} (hM : M.1.cls = RX11) (ho : kd o = 11) (hr : rf o 2 = r) (hd : decode M.2.1 pc = .ok (.getfield 16, 3)) (h : Ex E M Q (pc + 3) ls (.ref r :: st) μ) : Ex E M Q pc ls (.ref o :: st) μ :=
  x_get (ci := 11) (k := 2) ho (by decide) rfl iG11 (by decide) (by rw [ln11 o ho]; decide) (by rw [hM]; exact fl11_2) (by unfold fp; rw [ho, hr]; rfl) hd h
set_option maxRecDepth 20000 in
theorem fl11_3 : Cond.fieldLink RX11 19 (TX11 3).1 (TX11 3).2.1 (TX11 3).2.2.1 ∈ tbG := tbk5 67 rfl rfl
theorem gf11_3 {E : EV} {M : MT} {Q : Po} {pc o : Nat} {ls : List (Nat × Value)} {st : List Value} {μ : Mem} {r : Nat} (hM : M.1.cls = RX11) (ho : kd o = 11) (hr : rf o 3 = r) (hd : decode M.2.1 pc = .ok (.getfield 19, 3)) (h : Ex E M Q (pc + 3) ls (.ref r :: st) μ) : Ex E M Q pc ls (.ref o :: st) μ :=
  x_get (ci := 11) (k := 3) ho (by decide) rfl iG11 (by decide) (by rw [ln11 o ho]; decide) (by rw [hM]; exact fl11_3) (by unfold fp; rw [ho, hr]; rfl) hd h
set_option maxRecDepth 20000 in
theorem fl11_5 : Cond.fieldLink RX11 22 (TX11 5).1 (TX11 5).2.1 (TX11 5).2.2.1 ∈ tbG := tbk5 69 rfl rfl
theorem gf11_5 {E : EV} {M : MT} {Q : Po} {pc o : Nat} {ls : List (Nat × Value)} {st : List Value} {μ : Mem} {r : Nat} (hM : M.1.cls = RX11) (ho : kd o = 11) (hr : rf o 5 = r) (hd : decode M.2.1 pc = .ok (.getfield 22, 3)) (h : Ex E M Q (pc + 3) ls (.ref r :: st) μ) : Ex E M Q pc ls (.ref o :: st) μ :=
  x_get (ci := 11) (k := 5) ho (by decide) rfl iG11 (by decide) (by rw [ln11 o ho]; decide) (by rw [hM]; exact fl11_5) (by unfold fp; rw [ho, hr]; rfl) hd h
set_option maxRecDepth 20000 in
theorem fl11_6 : Cond.fieldLink RX11 25 (TX11 6).1 (TX11 6).2.1 (TX11 6).2.2.1 ∈ tbG := tbk5 70 rfl rfl
theorem gf11_6 {E : EV} {M : MT} {Q : Po} {pc o : Nat} {ls : List (Nat × Value)} {st : List Value} {μ : Mem} {r : Nat} (hM : M.1.cls = RX11) (ho : kd o = 11) (hr : rf o 6 = r) (hd : decode M.2.1 pc = .ok (.getfield 25, 3)) (h : Ex E M Q (pc + 3) ls (.ref r :: st) μ) : Ex E M Q pc ls (.ref o :: st) μ :=
  x_get (ci := 11) (k := 6) ho (by decide) rfl iG11 (by decide) (by rw [ln11 o ho]; decide) (by rw [hM]; exact fl11_6) (by unfold fp; rw [ho, hr]; rfl) hd h
set_option maxRecDepth 20000 in
theorem fl11_9 : Cond.fieldLink RX11 28 (TX11 9).1 (TX11 9).2.1 (TX11 9).2.2.1 ∈ tbG := tbk5 73 rfl rfl
theorem gf11_9 {E : EV} {M : MT} {Q : Po} {pc o : Nat} {ls : List (Nat × Value)} {st : List Value} {μ : Mem} {r : Nat} (hM : M.1.cls = RX11) (ho : kd o = 11) (hr : rf o 9 = r) (hd : decode M.2.1 pc = .ok (.getfield 28, 3)) (h : Ex E M Q (pc + 3) ls (.ref r :: st) μ) : Ex E M Q pc ls (.ref o :: st) μ :=
  x_get (ci := 11) (k := 9) ho (by decide) rfl iG11 (by decide) (by rw [ln11 o ho]; decide) (by rw [hM]; exact fl11_9) (by unfold fp; rw [ho, hr]; rfl) hd h
set_option maxRecDepth 20000 in
theorem fl11_10 : Cond.fieldLink RX11 31 (TX11 10).1 (TX11 10).2.1 (TX11 10).2.2.1 ∈ tbG := tbk5 74 rfl rfl
theorem gf11_10 {E : EV} {M : MT} {Q : Po} {pc o : Nat} {ls : List (Nat × Value)} {st : List Value} {μ : Mem} {r : Nat} (hM : M.1.cls = RX11) (ho : kd o = 11) (hr : rf o 10 = r) (hd : decode M.2.1 pc = .ok (.getfield 31, 3)) (h : Ex E M Q (pc + 3) ls (.ref r :: st) μ) : Ex E M Q pc ls (.ref o :: st) μ :=
  x_get (ci := 11) (k := 10) ho (by decide) rfl iG11 (by decide) (by rw [ln11 o ho]; decide) (by rw [hM]; exact fl11_10) (by unfold fp; rw [ho, hr]; rfl) hd h
set_option maxRecDepth 20000 in
theorem fl11_11 : Cond.fieldLink RX11 34 (TX11 11).1 (TX11 11).2.1 (TX11 11).2.2.1 ∈ tbG := tbk5 75 rfl rfl
theorem gf11_11 {E : EV} {M : MT} {Q : Po} {pc o : Nat} {ls : List (Nat × Value)} {st : List Value} {μ : Mem} {r : Nat} (hM : M.1.cls = RX11) (ho : kd o = 11) (hr : rf o 11 = r) (hd : decode M.2.1 pc = .ok (.getfield 34, 3)) (h : Ex E M Q (pc + 3) ls (.ref r :: st) μ) : Ex E M Q pc ls (.ref o :: st) μ :=
  x_get (ci := 11) (k := 11) ho (by decide) rfl iG11 (by decide) (by rw [ln11 o ho]; decide) (by rw [hM]; exact fl11_11) (by unfold fp; rw [ho, hr]; rfl) hd h
set_option maxRecDepth 20000 in
theorem fl11_14 : Cond.fieldLink RX11 38 (TX11 14).1 (TX11 14).2.1 (TX11 14).2.2.1 ∈ tbG := tbk5 78 rfl rfl
theorem gf11_14 {E : EV} {M : MT} {Q : Po} {pc o : Nat} {ls : List (Nat × Value)} {st : List Value} {μ : Mem} {r : Nat} (hM : M.1.cls = RX11) (ho : kd o = 11) (hr : rf o 14 = r) (hd : decode M.2.1 pc = .ok (.getfield 38, 3)) (h : Ex E M Q (pc + 3) ls (.ref r :: st) μ) : Ex E M Q pc ls (.ref o :: st) μ :=
  x_get (ci := 11) (k := 14) ho (by decide) rfl iG11 (by decide) (by rw [ln11 o ho]; decide) (by rw [hM]; exact fl11_14) (by unfold fp; rw [ho, hr]; rfl) hd h
set_option maxRecDepth 20000 in
theorem fl11_15 : Cond.fieldLink RX11 41 (TX11 15).1 (TX11 15).2.1 (TX11 15).2.2.1 ∈ tbG := tbk5 79 rfl rfl
theorem gf11_15 {E : EV} {M : MT} {Q : Po} {pc o : Nat} {ls : List (Nat × Value)} {st : List Value} {μ : Mem} {r : Nat} (hM : M.1.cls = RX11) (ho : kd o = 11) (hr : rf o 15 = r) (hd : decode M.2.1 pc = .ok (.getfield 41, 3)) (h : Ex E M Q (pc + 3) ls (.ref r :: st) μ) : Ex E M Q pc ls (.ref o :: st) μ :=
  x_get (ci := 11) (k := 15) ho (by decide) rfl iG11 (by decide) (by rw [ln11 o ho]; decide) (by rw [hM]; exact fl11_15) (by unfold fp; rw [ho, hr]; rfl) hd h
set_option maxRecDepth 20000 in
theorem fl11_17 : Cond.fieldLink RX11 44 (TX11 17).1 (TX11 17).2.1 (TX11 17).2.2.1 ∈ tbG := tbk5 81 rfl rfl
theorem gf11_17 {E : EV} {M : MT} {Q : Po} {pc o : Nat} {ls : List (Nat × Value)} {st : List Value} {μ : Mem} {r : Nat} (hM : M.1.cls = RX11) (ho : kd o = 11) (hr : rf o 17 = r) (hd : decode M.2.1 pc = .ok (.getfield 44, 3)) (h : Ex E M Q (pc + 3) ls (.ref r :: st) μ) : Ex E M Q pc ls (.ref o :: st) μ :=
  x_get (ci := 11) (k := 17) ho (by decide) rfl iG11 (by decide) (by rw [ln11 o ho]; decide) (by rw [hM]; exact fl11_17) (by unfold fp; rw [ho, hr]; rfl) hd h
set_option maxRecDepth 20000 in
theorem fl11_18 : Cond.fieldLink RX11 47 (TX11 18).1 (TX11 18).2.1 (TX11 18).2.2.1 ∈ tbG := tbk5 82 rfl rfl
theorem gf11_18 {E : EV} {M : MT} {Q : Po} {pc o : Nat} {ls : List (Nat × Value)} {st : List Value} {μ : Mem} {r : Nat} (hM : M.1.cls = RX11) (ho : kd o = 11) (hr : rf o 18 = r) (hd : decode M.2.1 pc = .ok (.getfield 47, 3)) (h : Ex E M Q (pc + 3) ls (.ref r :: st) μ) : Ex E M Q pc ls (.ref o :: st) μ :=
  x_get (ci := 11) (k := 18) ho (by decide) rfl iG11 (by decide) (by rw [ln11 o ho]; decide) (by rw [hM]; exact fl11_18) (by unfold fp; rw [ho, hr]; rfl) hd h
set_option maxRecDepth 20000 in
theorem fl11_19 : Cond.fieldLink RX11 51 (TX11 19).1 (TX11 19).2.1 (TX11 19).2.2.1 ∈ tbG := tbk5 83 rfl rfl
theorem gf11_19 {E : EV} {M : MT} {Q : Po} {pc o : Nat} {ls : List (Nat × Value)} {st : List Value} {μ : Mem} {r : Nat} (hM : M.1.cls = RX11) (ho : kd o = 11) (hr : rf o 19 = r) (hd : decode M.2.1 pc = .ok (.getfield 51, 3)) (h : Ex E M Q (pc + 3) ls (.ref r :: st) μ) : Ex E M Q pc ls (.ref o :: st) μ :=
  x_get (ci := 11) (k := 19) ho (by decide) rfl iG11 (by decide) (by rw [ln11 o ho]; decide) (by rw [hM]; exact fl11_19) (by unfold fp; rw [ho, hr]; rfl) hd h
set_option maxRecDepth 20000 in
theorem fl11_24 : Cond.fieldLink RX11 54 (TX11 24).1 (TX11 24).2.1 (TX11 24).2.2.1 ∈ tbG := tbk5 88 rfl rfl
theorem gf11_24 {E : EV} {M : MT} {Q : Po} {pc o : Nat} {ls : List (Nat × Value)} {st : List Value} {μ : Mem} {r : Nat} (hM : M.1.cls = RX11) (ho : kd o = 11) (hr : rf o 24 = r) (hd : decode M.2.1 pc = .ok (.getfield 54, 3)) (h : Ex E M Q (pc + 3) ls (.ref r :: st) μ) : Ex E M Q pc ls (.ref o :: st) μ :=
  x_get (ci := 11) (k := 24) ho (by decide) rfl iG11 (by decide) (by rw [ln11 o ho]; decide) (by rw [hM]; exact fl11_24) (by unfold fp; rw [ho, hr]; rfl) hd h
set_option maxRecDepth 20000 in
theorem fl11_25 : Cond.fieldLink RX11 57 (TX11 25).1 (TX11 25).2.1 (TX11 25).2.2.1 ∈ tbG := tbk5 89 rfl rfl
theorem gf11_25 {E : EV} {M : MT} {Q : Po} {pc o : Nat} {ls : List (Nat × Value)} {st : List Value} {μ : Mem} {r : Nat} (hM : M.1.cls = RX11) (ho : kd o = 11) (hr : rf o 25 = r) (hd : decode M.2.1 pc = .ok (.getfield 57, 3)) (h : Ex E M Q (pc + 3) ls (.ref r :: st) μ) : Ex E M Q pc ls (.ref o :: st) μ :=
  x_get (ci := 11) (k := 25) ho (by decide) rfl iG11 (by decide) (by rw [ln11 o ho]; decide) (by rw [hM]; exact fl11_25) (by unfold fp; rw [ho, hr]; rfl) hd h
set_option maxRecDepth 20000 in
theorem fl11_26 : Cond.fieldLink RX11 60 (TX11 26).1 (TX11 26).2.1 (TX11 26).2.2.1 ∈ tbG := tbk5 90 rfl rfl
theorem gf11_26 {E : EV} {M : MT} {Q : Po} {pc o : Nat} {ls : List (Nat × Value)} {st : List Value} {μ : Mem} {r : Nat} (hM : M.1.cls = RX11) (ho : kd o = 11) (hr : rf o 26 = r) (hd : decode M.2.1 pc = .ok (.getfield 60, 3)) (h : Ex E M Q (pc + 3) ls (.ref r :: st) μ) : Ex E M Q pc ls (.ref o :: st) μ :=
  x_get (ci := 11) (k := 26) ho (by decide) rfl iG11 (by decide) (by rw [ln11 o ho]; decide) (by rw [hM]; exact fl11_26) (by unfold fp; rw [ho, hr]; rfl) hd h
set_option maxRecDepth 20000 in
theorem fl11_27 : Cond.fieldLink RX11 63 (TX11 27).1 (TX11 27).2.1 (TX11 27).2.2.1 ∈ tbG := tbk5 91 rfl rfl
theorem gf11_27 {E : EV} {M : MT} {Q : Po} {pc o : Nat} {ls : List (Nat × Value)} {st : List Value} {μ : Mem} {r : Nat} (hM : M.1.cls = RX11) (ho : kd o = 11) (hr : rf o 27 = r) (hd : decode M.2.1 pc = .ok (.getfield 63, 3)) (h : Ex E M Q (pc + 3) ls (.ref r :: st) μ) : Ex E M Q pc ls (.ref o :: st) μ :=
  x_get (ci := 11) (k := 27) ho (by decide) rfl iG11 (by decide) (by rw [ln11 o ho]; decide) (by rw [hM]; exact fl11_27) (by unfold fp; rw [ho, hr]; rfl) hd h
set_option maxRecDepth 20000 in
theorem fl11_29 : Cond.fieldLink RX11 66 (TX11 29).1 (TX11 29).2.1 (TX11 29).2.2.1 ∈ tbG := tbk5 93 rfl rfl
theorem gf11_29 {E : EV} {M : MT} {Q : Po} {pc o : Nat} {ls : List (Nat × Value)} {st : List Value} {μ : Mem} {r : Nat} (hM : M.1.cls = RX11) (ho : kd o = 11) (hr : rf o 29 = r) (hd : decode M.2.1 pc = .ok (.getfield 66, 3)) (h : Ex E M Q (pc + 3) ls (.ref r :: st) μ) : Ex E M Q pc ls (.ref o :: st) μ :=
  x_get (ci := 11) (k := 29) ho (by decide) rfl iG11 (by decide) (by rw [ln11 o ho]; decide) (by rw [hM]; exact fl11_29) (by unfold fp; rw [ho, hr]; rfl) hd h
set_option maxRecDepth 20000 in
theorem fl11_30 : Cond.fieldLink RX11 69 (TX11 30).1 (TX11 30).2.1 (TX11 30).2.2.1 ∈ tbG := tbk5 94 rfl rfl
theorem gf11_30 {E : EV} {M : MT} {Q : Po} {pc o : Nat} {ls : List (Nat × Value)} {st : List Value} {μ : Mem} {r : Nat} (hM : M.1.cls = RX11) (ho : kd o = 11) (hr : rf o 30 = r) (hd : decode M.2.1 pc = .ok (.getfield 69, 3)) (h : Ex E M Q (pc + 3) ls (.ref r :: st) μ) : Ex E M Q pc ls (.ref o :: st) μ :=
  x_get (ci := 11) (k := 30) ho (by decide) rfl iG11 (by decide) (by rw [ln11 o ho]; decide) (by rw [hM]; exact fl11_30) (by unfold fp; rw [ho, hr]; rfl) hd h
set_option maxRecDepth 20000 in
theorem fl11_31 : Cond.fieldLink RX11 72 (TX11 31).1 (TX11 31).2.1 (TX11 31).2.2.1 ∈ tbG := tbk5 95 rfl rfl
theorem gf11_31 {E : EV} {M : MT} {Q : Po} {pc o : Nat} {ls : List (Nat × Value)} {st : List Value} {μ : Mem} {r : Nat} (hM : M.1.cls = RX11) (ho : kd o = 11) (hr : rf o 31 = r) (hd : decode M.2.1 pc = .ok (.getfield 72, 3)) (h : Ex E M Q (pc + 3) ls (.ref r :: st) μ) : Ex E M Q pc ls (.ref o :: st) μ :=
  x_get (ci := 11) (k := 31) ho (by decide) rfl iG11 (by decide) (by rw [ln11 o ho]; decide) (by rw [hM]; exact fl11_31) (by unfold fp; rw [ho, hr]; rfl) hd h
set_option maxRecDepth 20000 in
theorem fl11_32 : Cond.fieldLink RX11 75 (TX11 32).1 (TX11 32).2.1 (TX11 32).2.2.1 ∈ tbG := tbk5 96 rfl rfl
theorem gf11_32 {E : EV} {M : MT} {Q : Po} {pc o : Nat} {ls : List (Nat × Value)} {st : List Value} {μ : Mem} {r : Nat} (hM : M.1.cls = RX11) (ho : kd o = 11) (hr : rf o 32 = r) (hd : decode M.2.1 pc = .ok (.getfield 75, 3)) (h : Ex E M Q (pc + 3) ls (.ref r :: st) μ) : Ex E M Q pc ls (.ref o :: st) μ :=
  x_get (ci := 11) (k := 32) ho (by decide) rfl iG11 (by decide) (by rw [ln11 o ho]; decide) (by rw [hM]; exact fl11_32) (by unfold fp; rw [ho, hr]; rfl) hd h
set_option maxRecDepth 20000 in
theorem fl11_33 : Cond.fieldLink RX11 78 (TX11 33).1 (TX11 33).2.1 (TX11 33).2.2.1 ∈ tbG := tbk5 97 rfl rfl
theorem gf11_33 {E : EV} {M : MT} {Q : Po} {pc o : Nat} {ls : List (Nat × Value)} {st : List Value} {μ : Mem} {r : Nat} (hM : M.1.cls = RX11) (ho : kd o = 11) (hr : rf o 33 = r) (hd : decode M.2.1 pc = .ok (.getfield 78, 3)) (h : Ex E M Q (pc + 3) ls (.ref r :: st) μ) : Ex E M Q pc ls (.ref o :: st) μ :=
  x_get (ci := 11) (k := 33) ho (by decide) rfl iG11 (by decide) (by rw [ln11 o ho]; decide) (by rw [hM]; exact fl11_33) (by unfold fp; rw [ho, hr]; rfl) hd h
set_option maxRecDepth 20000 in
theorem fl11_34 : Cond.fieldLink RX11 81 (TX11 34).1 (TX11 34).2.1 (TX11 34).2.2.1 ∈ tbG := tbk5 98 rfl rfl
theorem gf11_34 {E : EV} {M : MT} {Q : Po} {pc o : Nat} {ls : List (Nat × Value)} {st : List Value} {μ : Mem} {r : Nat} (hM : M.1.cls = RX11) (ho : kd o = 11) (hr : rf o 34 = r) (hd : decode M.2.1 pc = .ok (.getfield 81, 3)) (h : Ex E M Q (pc + 3) ls (.ref r :: st) μ) : Ex E M Q pc ls (.ref o :: st) μ :=
  x_get (ci := 11) (k := 34) ho (by decide) rfl iG11 (by decide) (by rw [ln11 o ho]; decide) (by rw [hM]; exact fl11_34) (by unfold fp; rw [ho, hr]; rfl) hd h
set_option maxRecDepth 20000 in
theorem fl11_4 : Cond.fieldLink RX11 92 (TX11 4).1 (TX11 4).2.1 (TX11 4).2.2.1 ∈ tbG := tbk5 68 rfl rfl
theorem gf11_4 {E : EV} {M : MT} {Q : Po} {pc o : Nat} {ls : List (Nat × Value)} {st : List Value} {μ : Mem} (hM : M.1.cls = RX11) (ho : kd o = 11) (hd : decode M.2.1 pc = .ok (.getfield 92, 3)) (h : Ex E M Q (pc + 3) ls (.int (μ.1 o 4) :: st) μ) : Ex E M Q pc ls (.ref o :: st) μ :=
  x_get (ci := 11) (k := 4) ho (by decide) rfl iG11 (by decide) (by rw [ln11 o ho]; decide) (by rw [hM]; exact fl11_4) (by unfold fp; rw [ho]; rfl) hd h
theorem pf11_4 {E : EV} {M : MT} {Q : Po} {pc o : Nat} {ls : List (Nat × Value)} {st : List Value} {μ : Mem} {x : Int32} (hM : M.1.cls = RX11) (ho : kd o = 11) (hd : decode M.2.1 pc = .ok (.putfield 92, 3)) (h : Ex E M Q (pc + 3) ls st (mI μ o 4 x)) : Ex E M Q pc ls (.int x :: .ref o :: st) μ :=
  x_putI (ci := 11) (k := 4) (ty := .int) tyX11 tyX11_ok nmX11 ho (by decide) rfl iG11 (by decide) (by rw [ln11 o ho]; decide) (by rw [hM]; exact fl11_4) rfl (by decide) (by decide +kernel) rfl rfl hd h
set_option maxRecDepth 20000 in
theorem fl11_7 : Cond.fieldLink RX11 125 (TX11 7).1 (TX11 7).2.1 (TX11 7).2.2.1 ∈ tbG := tbk5 71 rfl rfl
theorem gf11_7 {E : EV} {M : MT} {Q : Po} {pc o : Nat} {ls : List (Nat × Value)} {st : List Value} {μ : Mem} (hM : M.1.cls = RX11) (ho : kd o = 11) (hd : decode M.2.1 pc = .ok (.getfield 125, 3)) (h : Ex E M Q (pc + 3) ls (.int (μ.1 o 7) :: st) μ) : Ex E M Q pc ls (.ref o :: st) μ :=
  x_get (ci := 11) (k := 7) ho (by decide) rfl iG11 (by decide) (by rw [ln11 o ho]; decide) (by rw [hM]; exact fl11_7) (by unfold fp; rw [ho]; rfl) hd h
theorem pf11_7 {E : EV} {M : MT} {Q : Po} {pc o : Nat} {ls : List (Nat × Value)} {st : List Value} {μ : Mem} {x : Int32} (hM : M.1.cls = RX11) (ho : kd o = 11) (hd : decode M.2.1 pc = .ok (.putfield 125, 3)) (h : Ex E M Q (pc + 3) ls st (mI μ o 7 x)) : Ex E M Q pc ls (.int x :: .ref o :: st) μ :=
  x_putI (ci := 11) (k := 7) (ty := .int) tyX11 tyX11_ok nmX11 ho (by decide) rfl iG11 (by decide) (by rw [ln11 o ho]; decide) (by rw [hM]; exact fl11_7) rfl (by decide) (by decide +kernel) rfl rfl hd h
set_option maxRecDepth 20000 in
theorem fl11_8 : Cond.fieldLink RX11 128 (TX11 8).1 (TX11 8).2.1 (TX11 8).2.2.1 ∈ tbG := tbk5 72 rfl rfl
theorem gf11_8 {E : EV} {M : MT} {Q : Po} {pc o : Nat} {ls : List (Nat × Value)} {st : List Value} {μ : Mem} (hM : M.1.cls = RX11) (ho : kd o = 11) (hd : decode M.2.1 pc = .ok (.getfield 128, 3)) (h : Ex E M Q (pc + 3) ls (.int (μ.1 o 8) :: st) μ) : Ex E M Q pc ls (.ref o :: st) μ :=
  x_get (ci := 11) (k := 8) ho (by decide) rfl iG11 (by decide) (by rw [ln11 o ho]; decide) (by rw [hM]; exact fl11_8) (by unfold fp; rw [ho]; rfl) hd h
theorem pf11_8 {E : EV} {M : MT} {Q : Po} {pc o : Nat} {ls : List (Nat × Value)} {st : List Value} {μ : Mem} {x : Int32} (hM : M.1.cls = RX11) (ho : kd o = 11) (hd : decode M.2.1 pc = .ok (.putfield 128, 3)) (h : Ex E M Q (pc + 3) ls st (mI μ o 8 x)) : Ex E M Q pc ls (.int x :: .ref o :: st) μ :=
  x_putI (ci := 11) (k := 8) (ty := .int) tyX11 tyX11_ok nmX11 ho (by decide) rfl iG11 (by decide) (by rw [ln11 o ho]; decide) (by rw [hM]; exact fl11_8) rfl (by decide) (by decide +kernel) rfl rfl hd h
set_option maxRecDepth 20000 in
theorem fl11_12 : Cond.fieldLink RX11 131 (TX11 12).1 (TX11 12).2.1 (TX11 12).2.2.1 ∈ tbG := tbk5 76 rfl rfl
theorem gf11_12 {E : EV} {M : MT} {Q : Po} {pc o : Nat} {ls : List (Nat × Value)} {st : List Value} {μ : Mem} (hM : M.1.cls = RX11) (ho : kd o = 11) (hd : decode M.2.1 pc = .ok (.getfield 131, 3)) (h : Ex E M Q (pc + 3) ls (.int (μ.1 o 12) :: st) μ) : Ex E M Q pc ls (.ref o :: st) μ :=
  x_get (ci := 11) (k := 12) ho (by decide) rfl iG11 (by decide) (by rw [ln11 o ho]; decide) (by rw [hM]; exact fl11_12) (by unfold fp; rw [ho]; rfl) hd h
theorem pf11_12 {E : EV} {M : MT} {Q : Po} {pc o : Nat} {ls : List (Nat × Value)} {st : List Value} {μ : Mem} {x : Int32} (hM : M.1.cls = RX11) (ho : kd o = 11) (hd : decode M.2.1 pc = .ok (.putfield 131, 3)) (h : Ex E M Q (pc + 3) ls st (mI μ o 12 x)) : Ex E M Q pc ls (.int x :: .ref o :: st) μ :=
  x_putI (ci := 11) (k := 12) (ty := .int) tyX11 tyX11_ok nmX11 ho (by decide) rfl iG11 (by decide) (by rw [ln11 o ho]; decide) (by rw [hM]; exact fl11_12) rfl (by decide) (by decide +kernel) rfl rfl hd h
set_option maxRecDepth 20000 in
theorem fl11_13 : Cond.fieldLink RX11 169 (TX11 13).1 (TX11 13).2.1 (TX11 13).2.2.1 ∈ tbG := tbk5 77 rfl rfl
theorem gf11_13 {E : EV} {M : MT} {Q : Po} {pc o : Nat} {ls : List (Nat × Value)} {st : List Value} {μ : Mem} (hM : M.1.cls = RX11) (ho : kd o = 11) (hd : decode M.2.1 pc = .ok (.getfield 169, 3)) (h : Ex E M Q (pc + 3) ls (.int (μ.1 o 13) :: st) μ) : Ex E M Q pc ls (.ref o :: st) μ :=
  x_get (ci := 11) (k := 13) ho (by decide) rfl iG11 (by decide) (by rw [ln11 o ho]; decide) (by rw [hM]; exact fl11_13) (by unfold fp; rw [ho]; rfl) hd h
theorem pf11_13 {E : EV} {M : MT} {Q : Po} {pc o : Nat} {ls : List (Nat × Value)} {st : List Value} {μ : Mem} {x : Int32} (hM : M.1.cls = RX11) (ho : kd o = 11) (hd : decode M.2.1 pc = .ok (.putfield 169, 3)) (h : Ex E M Q (pc + 3) ls st (mI μ o 13 x)) : Ex E M Q pc ls (.int x :: .ref o :: st) μ :=
  x_putI (ci := 11) (k := 13) (ty := .int) tyX11 tyX11_ok nmX11 ho (by decide) rfl iG11 (by decide) (by rw [ln11 o ho]; decide) (by rw [hM]; exact fl11_13) rfl (by decide) (by decide +kernel) rfl rfl hd h
set_option maxRecDepth 20000 in
theorem fl11_16 : Cond.fieldLink RX11 180 (TX11 16).1 (TX11 16).2.1 (TX11 16).2.2.1 ∈ tbG := tbk5 80 rfl rfl
theorem gf11_16 {E : EV} {M : MT} {Q : Po} {pc o : Nat} {ls : List (Nat × Value)} {st : List Value} {μ : Mem} (hM : M.1.cls = RX11) (ho : kd o = 11) (hd : decode M.2.1 pc = .ok (.getfield 180, 3)) (h : Ex E M Q (pc + 3) ls (.int (μ.1 o 16) :: st) μ) : Ex E M Q pc ls (.ref o :: st) μ :=
  x_get (ci := 11) (k := 16) ho (by decide) rfl iG11 (by decide) (by rw [ln11 o ho]; decide) (by rw [hM]; exact fl11_16) (by unfold fp; rw [ho]; rfl) hd h
theorem pf11_16 {E : EV} {M : MT} {Q : Po} {pc o : Nat} {ls : List (Nat × Value)} {st : List Value} {μ : Mem} {x : Int32} (hM : M.1.cls = RX11) (ho : kd o = 11) (hd : decode M.2.1 pc = .ok (.putfield 180, 3)) (h : Ex E M Q (pc + 3) ls st (mI μ o 16 x)) : Ex E M Q pc ls (.int x :: .ref o :: st) μ :=
  x_putI (ci := 11) (k := 16) (ty := .int) tyX11 tyX11_ok nmX11 ho (by decide) rfl iG11 (by decide) (by rw [ln11 o ho]; decide) (by rw [hM]; exact fl11_16) rfl (by decide) (by decide +kernel) rfl rfl hd h
set_option maxRecDepth 20000 in
theorem fl11_20 : Cond.fieldLink RX11 223 (TX11 20).1 (TX11 20).2.1 (TX11 20).2.2.1 ∈ tbG := tbk5 84 rfl rfl
theorem gf11_20 {E : EV} {M : MT} {Q : Po} {pc o : Nat} {ls : List (Nat × Value)} {st : List Value} {μ : Mem} (hM : M.1.cls = RX11) (ho : kd o = 11) (hd : decode M.2.1 pc = .ok (.getfield 223, 3)) (h : Ex E M Q (pc + 3) ls (.int (μ.1 o 20) :: st) μ) : Ex E M Q pc ls (.ref o :: st) μ :=
  x_get (ci := 11) (k := 20) ho (by decide) rfl iG11 (by decide) (by rw [ln11 o ho]; decide) (by rw [hM]; exact fl11_20) (by unfold fp; rw [ho]; rfl) hd h
theorem pf11_20 {E : EV} {M : MT} {Q : Po} {pc o : Nat} {ls : List (Nat × Value)} {st : List Value} {μ : Mem} {x : Int32} (hM : M.1.cls = RX11) (ho : kd o = 11) (hd : decode M.2.1 pc = .ok (.putfield 223, 3)) (h : Ex E M Q (pc + 3) ls st (mI μ o 20 x)) : Ex E M Q pc ls (.int x :: .ref o :: st) μ :=
  x_putI (ci := 11) (k := 20) (ty := .int) tyX11 tyX11_ok nmX11 ho (by decide) rfl iG11 (by decide) (by rw [ln11 o ho]; decide) (by rw [hM]; exact fl11_20) rfl (by decide) (by decide +kernel) rfl rfl hd h
set_option maxRecDepth 20000 in
theorem fl11_21 : Cond.fieldLink RX11 232 (TX11 21).1 (TX11 21).2.1 (TX11 21).2.2.1 ∈ tbG := tbk5 85 rfl rfl
theorem gf11_21 {E : EV} {M : MT} {Q : Po} {pc o : Nat} {ls : List (Nat × Value)} {st : List Value} {μ : Mem} (hM : M.1.cls = RX11) (ho : kd o = 11) (hd : decode M.2.1 pc = .ok (.getfield 232, 3)) (h : Ex E M Q (pc + 3) ls (.int (μ.1 o 21) :: st) μ) : Ex E M Q pc ls (.ref o :: st) μ :=
  x_get (ci := 11) (k := 21) ho (by decide) rfl iG11 (by decide) (by rw [ln11 o ho]; decide) (by rw [hM]; exact fl11_21) (by unfold fp; rw [ho]; rfl) hd h
theorem pf11_21 {E : EV} {M : MT} {Q : Po} {pc o : Nat} {ls : List (Nat × Value)} {st : List Value} {μ : Mem} {x : Int32} (hM : M.1.cls = RX11) (ho : kd o = 11) (hd : decode M.2.1 pc = .ok (.putfield 232, 3)) (h : Ex E M Q (pc + 3) ls st (mI μ o 21 x)) : Ex E M Q pc ls (.int x :: .ref o :: st) μ :=
  x_putI (ci := 11) (k := 21) (ty := .int) tyX11 tyX11_ok nmX11 ho (by decide) rfl iG11 (by decide) (by rw [ln11 o ho]; decide) (by rw [hM]; exact fl11_21) rfl (by decide) (by decide +kernel) rfl rfl hd h
set_option maxRecDepth 20000 in
theorem fl11_23 : Cond.fieldLink RX11 235 (TX11 23).1 (TX11 23).2.1 (TX11 23).2.2.1 ∈ tbG := tbk5 87 rfl rfl
theorem gf11_23 {E : EV} {M : MT} {Q : Po} {pc o : Nat} {ls : List (Nat × Value)} {st : List Value} {μ : Mem} (hM : M.1.cls = RX11) (ho : kd o = 11) (hd : decode M.2.1 pc = .ok (.getfield 235, 3)) (h : Ex E M Q (pc + 3) ls (.int (μ.1 o 23) :: st) μ) : Ex E M Q pc ls (.ref o :: st) μ :=
  x_get (ci := 11) (k := 23) ho (by decide) rfl iG11 (by decide) (by rw [ln11 o ho]; decide) (by rw [hM]; exact fl11_23) (by unfold fp; rw [ho]; rfl) hd h
theorem pf11_23 {E : EV} {M : MT} {Q : Po} {pc o : Nat} {ls : List (Nat × Value)} {st : List Value} {μ : Mem} {x : Int32} (hM : M.1.cls = RX11) (ho : kd o = 11) (hx : x = 0 ∨ x = 1) (hd : decode M.2.1 pc = .ok (.putfield 235, 3)) (h : Ex E M Q (pc + 3) ls st (mI μ o 23 x)) : Ex E M Q pc ls (.int x :: .ref o :: st) μ :=
  x_putI (ci := 11) (k := 23) (ty := .boolean) tyX11 tyX11_ok nmX11 ho (by decide) rfl iG11 (by decide) (by rw [ln11 o ho]; decide) (by rw [hM]; exact fl11_23) rfl (by decide) (by decide +kernel) (by rcases hx with rfl | rfl <;> rfl) (by rcases hx with rfl | rfl <;> rfl) hd h
set_option maxRecDepth 20000 in
theorem fl11_22 : Cond.fieldLink RX11 239 (TX11 22).1 (TX11 22).2.1 (TX11 22).2.2.1 ∈ tbG := tbk5 86 rfl rfl
theorem gf11_22 {E : EV} {M : MT} {Q : Po} {pc o : Nat} {ls : List (Nat × Value)} {st : List Value} {μ : Mem} (hM : M.1.cls = RX11) (ho : kd o = 11) (hd : decode M.2.1 pc = .ok (.getfield 239, 3)) (h : Ex E M Q (pc + 3) ls (.long (μ.2 o 22) :: st) μ) : Ex E M Q pc ls (.ref o :: st) μ :=
  x_get (ci := 11) (k := 22) ho (by decide) rfl iG11 (by decide) (by rw [ln11 o ho]; decide) (by rw [hM]; exact fl11_22) (by unfold fp; rw [ho]; rfl) hd h
theorem pf11_22 {E : EV} {M : MT} {Q : Po} {pc o : Nat} {ls : List (Nat × Value)} {st : List Value} {μ : Mem} {x : Int64} (hM : M.1.cls = RX11) (ho : kd o = 11) (hd : decode M.2.1 pc = .ok (.putfield 239, 3)) (h : Ex E M Q (pc + 3) ls st (mJ μ o 22 x)) : Ex E M Q pc ls (.long x :: .ref o :: st) μ :=
  x_putJ (ci := 11) (k := 22) (ty := .long) tyX11 tyX11_ok nmX11 ho (by decide) rfl iG11 (by decide) (by rw [ln11 o ho]; decide) (by rw [hM]; exact fl11_22) rfl (by decide) (by decide +kernel) rfl rfl hd h
set_option maxRecDepth 20000 in
theorem fl11_28 : Cond.fieldLink RX11 304 (TX11 28).1 (TX11 28).2.1 (TX11 28).2.2.1 ∈ tbG := tbk5 92 rfl rfl
theorem gf11_28 {E : EV} {M : MT} {Q : Po} {pc o : Nat} {ls : List (Nat × Value)} {st : List Value} {μ : Mem} (hM : M.1.cls = RX11) (ho : kd o = 11) (hd : decode M.2.1 pc = .ok (.getfield 304, 3)) (h : Ex E M Q (pc + 3) ls (.int (μ.1 o 28) :: st) μ) : Ex E M Q pc ls (.ref o :: st) μ :=
  x_get (ci := 11) (k := 28) ho (by decide) rfl iG11 (by decide) (by rw [ln11 o ho]; decide) (by rw [hM]; exact fl11_28) (by unfold fp; rw [ho]; rfl) hd h
theorem pf11_28 {E : EV} {M : MT} {Q : Po} {pc o : Nat} {ls : List (Nat × Value)} {st : List Value} {μ : Mem} {x : Int32} (hM : M.1.cls = RX11) (ho : kd o = 11) (hd : decode M.2.1 pc = .ok (.putfield 304, 3)) (h : Ex E M Q (pc + 3) ls st (mI μ o 28 x)) : Ex E M Q pc ls (.int x :: .ref o :: st) μ :=
  x_putI (ci := 11) (k := 28) (ty := .int) tyX11 tyX11_ok nmX11 ho (by decide) rfl iG11 (by decide) (by rw [ln11 o ho]; decide) (by rw [hM]; exact fl11_28) rfl (by decide) (by decide +kernel) rfl rfl hd h
