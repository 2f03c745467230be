/-! what the tables say, word by word (by program) -/
theorem mem_pl {big ws : List Cond} (ps : List Nat) (h : ws = ps.filterMap (fun i => big[i]?)) : ∀ w ∈ ws, w ∈ big := by
  intro w hw
  rw [h] at hw
  obtain ⟨i, -, hi⟩ := List.mem_filterMap.mp hw
  exact List.mem_of_getElem? hi
theorem in_t1 {w : Cond} (h : w ∈ tables_1_1) : w ∈ lw_tbl := List.mem_append_right _ (List.mem_append_left _ h)
theorem in_t2 {w : Cond} (h : w ∈ tables_1_2) : w ∈ lw_tbl := List.mem_append_right _ (List.mem_append_right _ (List.mem_append_left _ h))
theorem in_t3 {w : Cond} (h : w ∈ tables_1_3) : w ∈ lw_tbl := List.mem_append_right _ (List.mem_append_right _ (List.mem_append_right _ (List.mem_append_left _ h)))
theorem in_t4 {w : Cond} (h : w ∈ tables_1_4) : w ∈ lw_tbl := List.mem_append_right _ (List.mem_append_right _ (List.mem_append_right _ (List.mem_append_right _ (List.mem_append_left _ h))))
theorem in_t5 {w : Cond} (h : w ∈ tables_1_5) : w ∈ lw_tbl := List.mem_append_right _ (List.mem_append_right _ (List.mem_append_right _ (List.mem_append_right _ (List.mem_append_right _ (List.mem_append_left _ h)))))
theorem in_t6 {w : Cond} (h : w ∈ tables_1_6) : w ∈ lw_tbl := List.mem_append_right _ (List.mem_append_right _ (List.mem_append_right _ (List.mem_append_right _ (List.mem_append_right _ (List.mem_append_right _ h)))))
theorem in_sl {q : MethodName × Nat} (h : q ∈ lw_privs) : Cond.selects q.1.cls q.1 q.1 ∈ lw_tbl := List.mem_append_left _ (List.mem_map.mpr ⟨q, h, rfl⟩)
theorem wf_0 : ∀ w ∈ u_ws RX0 TX0 7, w ∈ tbG := fun w h => tbG_of (mem_pl [375, 377, 379, 381, 383, 385, 387] (by decide +kernel) w h) (List.all_eq_true.mp (show (u_ws RX0 TX0 7).all gW = true by decide +kernel) w h)
theorem wf_1 : ∀ w ∈ u_ws RX1 TX1 5, w ∈ tbG := fun w h => tbG_of (mem_pl [402, 404, 406, 408, 410] (by decide +kernel) w h) (List.all_eq_true.mp (show (u_ws RX1 TX1 5).all gW = true by decide +kernel) w h)
theorem wf_2 : ∀ w ∈ u_ws RX2 TX2 5, w ∈ tbG := fun w h => tbG_of (mem_pl [149, 151, 153, 155, 157] (by decide +kernel) w h) (List.all_eq_true.mp (show (u_ws RX2 TX2 5).all gW = true by decide +kernel) w h)
theorem wf_3 : ∀ w ∈ u_ws RX3 TX3 5, w ∈ tbG := fun w h => tbG_of (mem_pl [188, 190, 192, 194, 196] (by decide +kernel) w h) (List.all_eq_true.mp (show (u_ws RX3 TX3 5).all gW = true by decide +kernel) w h)
theorem wf_4 : ∀ w ∈ u_ws RX4 TX4 11, w ∈ tbG := fun w h => tbG_of (mem_pl [224, 226, 228, 230, 232, 234, 236, 238, 240, 242, 244] (by decide +kernel) w h) (List.all_eq_true.mp (show (u_ws RX4 TX4 11).all gW = true by decide +kernel) w h)
theorem wf_5 : ∀ w ∈ u_ws RX5 TX5 3, w ∈ tbG := fun w h => tbG_of (mem_pl [425, 427, 429] (by decide +kernel) w h) (List.all_eq_true.mp (show (u_ws RX5 TX5 3).all gW = true by decide +kernel) w h)
theorem wf_6 : ∀ w ∈ u_ws RX6 TX6 8, w ∈ tbG := fun w h => tbG_of (mem_pl [301, 303, 305, 307, 309, 311, 313, 315] (by decide +kernel) w h) (List.all_eq_true.mp (show (u_ws RX6 TX6 8).all gW = true by decide +kernel) w h)
theorem wf_7 : ∀ w ∈ u_ws RX7 TX7 3, w ∈ tbG := fun w h => tbG_of (mem_pl [264, 266, 268] (by decide +kernel) w h) (List.all_eq_true.mp (show (u_ws RX7 TX7 3).all gW = true by decide +kernel) w h)
theorem wf_8 : ∀ w ∈ u_ws RX8 TX8 9, w ∈ tbG := fun w h => tbG_of (mem_pl [337, 339, 341, 343, 345, 347, 349, 351, 353] (by decide +kernel) w h) (List.all_eq_true.mp (show (u_ws RX8 TX8 9).all gW = true by decide +kernel) w h)
theorem wf_9 : ∀ w ∈ u_ws RX9 TX9 16, w ∈ tbG := fun w h => tbG_of (mem_pl [448, 450, 452, 454, 456, 458, 460, 462, 464, 466, 468, 470, 472, 474, 476, 478] (by decide +kernel) w h) (List.all_eq_true.mp (show (u_ws RX9 TX9 16).all gW = true by decide +kernel) w h)
theorem wf_10 : ∀ w ∈ u_ws RX10 TX10 48, w ∈ tbG := fun w h => tbG_of (mem_pl [1025, 1027, 1029, 1031, 1033, 1035, 1037, 1039, 1041, 1043, 1045, 1047, 1049, 1051, 1053, 1055, 1057, 1059, 1061, 1063, 1065, 1067, 1069, 1071, 1073, 1075, 1077, 1079, 1081, 1083, 1085, 1087, 1089, 1091, 1093, 1095, 1097, 1099, 1101, 1103, 1105, 1107, 1109, 1111, 1113, 1115, 1117, 1119] (by decide +kernel) w h) (List.all_eq_true.mp (show (u_ws RX10 TX10 48).all gW = true by decide +kernel) w h)
abbrev mJ13_bitCount_95d88 : Mth := (yJ13_bitCount_95d88, cJ13_bitCount_95d88, 2, (some .int))
abbrev mJ6_numberOfTrailingZeros_0f7a4 : Mth := (yJ6_numberOfTrailingZeros_0f7a4, cJ6_numberOfTrailingZeros_0f7a4, 2, (some .int))
abbrev mX0_boundByCells : Mth := (yX0_boundByCells, cX0_boundByCells, 3, none)
abbrev mX0_boundByUprights : Mth := (yX0_boundByUprights, cX0_boundByUprights, 5, none)
abbrev mX0_join : Mth := (yX0_join, cX0_join, 4, none)
abbrev mX0_link : Mth := (yX0_link, cX0_link, 3, none)
abbrev mX0_number : Mth := (yX0_number, cX0_number, 4, none)
abbrev mX0_rootOf : Mth := (yX0_rootOf, cX0_rootOf, 4, (some .int))
abbrev mX0_unite : Mth := (yX0_unite, cX0_unite, 5, none)
abbrev mX0_way : Mth := (yX0_way, cX0_way, 9, (some .int))
abbrev mX10_addCell : Mth := (yX10_addCell, cX10_addCell, 4, none)
abbrev mX10_addPoint : Mth := (yX10_addPoint, cX10_addPoint, 17, none)
abbrev mX10_against : Mth := (yX10_against, cX10_against, 10, (some .int))
abbrev mX10_againstThrough : Mth := (yX10_againstThrough, cX10_againstThrough, 9, (some .int))
abbrev mX10_back : Mth := (yX10_back, cX10_back, 1, (some .int))
abbrev mX10_borders : Mth := (yX10_borders, cX10_borders, 4, (some .int))
abbrev mX10_bordersAt : Mth := (yX10_bordersAt, cX10_bordersAt, 5, (some .int))
abbrev mX10_byLot : Mth := (yX10_byLot, cX10_byLot, 8, (some .int))
abbrev mX10_cell : Mth := (yX10_cell, cX10_cell, 3, (some .int))
abbrev mX10_chance : Mth := (yX10_chance, cX10_chance, 7, (some .int))
abbrev mX10_common : Mth := (yX10_common, cX10_common, 4, (some .long))
abbrev mX10_copy : Mth := (yX10_copy, cX10_copy, 6, (some .int))
abbrev mX10_count : Mth := (yX10_count, cX10_count, 2, (some .int))
abbrev mX10_cross : Mth := (yX10_cross, cX10_cross, 4, (some .int))
abbrev mX10_cut : Mth := (yX10_cut, cX10_cut, 7, none)
abbrev mX10_draw : Mth := (yX10_draw, cX10_draw, 1, (some .int))
abbrev mX10_drawn : Mth := (yX10_drawn, cX10_drawn, 3, (some .int))
abbrev mX10_drop : Mth := (yX10_drop, cX10_drop, 2, (some .int))
abbrev mX10_drops : Mth := (yX10_drops, cX10_drops, 3, none)
abbrev mX10_endRow : Mth := (yX10_endRow, cX10_endRow, 2, (some (.array .int)))
abbrev mX10_endsAt : Mth := (yX10_endsAt, cX10_endsAt, 4, (some .int))
abbrev mX10_face : Mth := (yX10_face, cX10_face, 5, (some .int))
abbrev mX10_facesNow : Mth := (yX10_facesNow, cX10_facesNow, 1, (some .int))
abbrev mX10_facesWithout : Mth := (yX10_facesWithout, cX10_facesWithout, 3, (some .int))
abbrev mX10_film : Mth := (yX10_film, cX10_film, 4, (some .int))
abbrev mX10_hasMore : Mth := (yX10_hasMore, cX10_hasMore, 4, (some .boolean))
abbrev mX10_hops : Mth := (yX10_hops, cX10_hops, 6, (some .int))
abbrev mX10_image : Mth := (yX10_image, cX10_image, 1, (some .int))
abbrev mX10_in : Mth := (yX10_in, cX10_in, 3, (some .boolean))
abbrev mX10_isAhead : Mth := (yX10_isAhead, cX10_isAhead, 8, (some .boolean))
abbrev mX10_isLess : Mth := (yX10_isLess, cX10_isLess, 4, (some .boolean))
abbrev mX10_isLine : Mth := (yX10_isLine, cX10_isLine, 2, (some .boolean))
abbrev mX10_isMoreThanOne : Mth := (yX10_isMoreThanOne, cX10_isMoreThanOne, 1, (some .boolean))
abbrev mX10_isNext : Mth := (yX10_isNext, cX10_isNext, 3, none)
abbrev mX10_isOn : Mth := (yX10_isOn, cX10_isOn, 14, (some .boolean))
abbrev mX10_isOnSheet : Mth := (yX10_isOnSheet, cX10_isOnSheet, 1, (some .boolean))
abbrev mX10_isOpen : Mth := (yX10_isOpen, cX10_isOpen, 11, (some .boolean))
abbrev mX10_isPiece : Mth := (yX10_isPiece, cX10_isPiece, 5, (some .boolean))
abbrev mX10_isPlace : Mth := (yX10_isPlace, cX10_isPlace, 3, (some .boolean))
abbrev mX10_isSheet : Mth := (yX10_isSheet, cX10_isSheet, 1, (some .boolean))
abbrev mX10_isSide : Mth := (yX10_isSide, cX10_isSide, 7, (some .boolean))
abbrev mX10_isThere : Mth := (yX10_isThere, cX10_isThere, 6, (some .boolean))
abbrev mX10_isUpright : Mth := (yX10_isUpright, cX10_isUpright, 2, (some .boolean))
abbrev mX10_isUprightAt : Mth := (yX10_isUprightAt, cX10_isUprightAt, 6, (some .boolean))
abbrev mX10_joinCells : Mth := (yX10_joinCells, cX10_joinCells, 7, none)
abbrev mX10_keep : Mth := (yX10_keep, cX10_keep, 3, none)
abbrev mX10_layBack : Mth := (yX10_layBack, cX10_layBack, 3, none)
abbrev mX10_leastOf : Mth := (yX10_leastOf, cX10_leastOf, 1, (some .int))
abbrev mX10_line : Mth := (yX10_line, cX10_line, 5, (some .int))
abbrev mX10_linesAt : Mth := (yX10_linesAt, cX10_linesAt, 2, (some .int))
abbrev mX10_linesOn : Mth := (yX10_linesOn, cX10_linesOn, 11, (some .int))
abbrev mX10_load : Mth := (yX10_load, cX10_load, 8, (some .int))
abbrev mX10_lowest : Mth := (yX10_lowest, cX10_lowest, 7, (some .long))
abbrev mX10_meet : Mth := (yX10_meet, cX10_meet, 10, none)
abbrev mX10_meetInRow : Mth := (yX10_meetInRow, cX10_meetInRow, 9, none)
abbrev mX10_most : Mth := (yX10_most, cX10_most, 6, (some .int))
abbrev mX10_move : Mth := (yX10_move, cX10_move, 7, (some .int))
abbrev mX10_narrow : Mth := (yX10_narrow, cX10_narrow, 8, none)
abbrev mX10_nextTo : Mth := (yX10_nextTo, cX10_nextTo, 4, (some .int))
abbrev mX10_on : Mth := (yX10_on, cX10_on, 4, (some .int))
abbrev mX10_order : Mth := (yX10_order, cX10_order, 4, (some .int))
abbrev mX10_otherwise : Mth := (yX10_otherwise, cX10_otherwise, 5, (some .int))
abbrev mX10_partsMany : Mth := (yX10_partsMany, cX10_partsMany, 4, (some .int))
abbrev mX10_placeAt : Mth := (yX10_placeAt, cX10_placeAt, 4, (some .int))
abbrev mX10_point : Mth := (yX10_point, cX10_point, 4, (some .int))
abbrev mX10_pointAgainst : Mth := (yX10_pointAgainst, cX10_pointAgainst, 11, (some .int))
abbrev mX10_pointsOn : Mth := (yX10_pointsOn, cX10_pointsOn, 4, (some .int))
abbrev mX10_put : Mth := (yX10_put, cX10_put, 4, (some .int))
abbrev mX10_sheet : Mth := (yX10_sheet, cX10_sheet, 5, (some .int))
abbrev mX10_size : Mth := (yX10_size, cX10_size, 2, (some .long))
abbrev mX10_slab : Mth := (yX10_slab, cX10_slab, 3, (some .int))
abbrev mX10_stands : Mth := (yX10_stands, cX10_stands, 7, none)
abbrev mX10_taken : Mth := (yX10_taken, cX10_taken, 4, (some .int))
abbrev mX10_tellHulls : Mth := (yX10_tellHulls, cX10_tellHulls, 6, (some .int))
abbrev mX10_tellNext : Mth := (yX10_tellNext, cX10_tellNext, 5, none)
abbrev mX10_tellOrder : Mth := (yX10_tellOrder, cX10_tellOrder, 8, none)
abbrev mX10_tellPieces : Mth := (yX10_tellPieces, cX10_tellPieces, 7, (some .int))
abbrev mX10_tellPoints : Mth := (yX10_tellPoints, cX10_tellPoints, 3, none)
abbrev mX10_tellSheet : Mth := (yX10_tellSheet, cX10_tellSheet, 2, none)
abbrev mX10_tells : Mth := (yX10_tells, cX10_tells, 8, (some .int))
abbrev mX10_told : Mth := (yX10_told, cX10_told, 4, (some .int))
abbrev mX10_turn : Mth := (yX10_turn, cX10_turn, 5, (some .int))
abbrev mX10_twos : Mth := (yX10_twos, cX10_twos, 5, (some .int))
abbrev mX10_where : Mth := (yX10_where, cX10_where, 6, (some .int))
abbrev mX10_wide : Mth := (yX10_wide, cX10_wide, 1, none)
abbrev mX10_without : Mth := (yX10_without, cX10_without, 2, (some .int))
abbrev mX10_yAbove : Mth := (yX10_yAbove, cX10_yAbove, 8, (some .long))
abbrev mX10_yBelow : Mth := (yX10_yBelow, cX10_yBelow, 4, (some .long))
abbrev mX1_add : Mth := (yX1_add, cX1_add, 3, none)
abbrev mX1_hullOf : Mth := (yX1_hullOf, cX1_hullOf, 4, (some .int))
abbrev mX1_isLeft : Mth := (yX1_isLeft, cX1_isLeft, 3, (some .boolean))
abbrev mX1_isOnBorder : Mth := (yX1_isOnBorder, cX1_isOnBorder, 5, (some .boolean))
abbrev mX1_noneAtTheLeft : Mth := (yX1_noneAtTheLeft, cX1_noneAtTheLeft, 6, (some .boolean))
abbrev mX1_peel : Mth := (yX1_peel, cX1_peel, 4, none)
abbrev mX1_peelOff : Mth := (yX1_peelOff, cX1_peelOff, 4, (some .int))
abbrev mX2_add : Mth := (yX2_add, cX2_add, 5, (some .int))
abbrev mX2_become : Mth := (yX2_become, cX2_become, 3, none)
abbrev mX2_has : Mth := (yX2_has, cX2_has, 2, (some .boolean))
abbrev mX2_height : Mth := (yX2_height, cX2_height, 6, (some .long))
abbrev mX2_holds : Mth := (yX2_holds, cX2_holds, 10, (some .boolean))
abbrev mX2_isFull : Mth := (yX2_isFull, cX2_isFull, 1, (some .boolean))
abbrev mX2_isUpright : Mth := (yX2_isUpright, cX2_isUpright, 2, (some .boolean))
abbrev mX2_lay : Mth := (yX2_lay, cX2_lay, 7, none)
abbrev mX2_reaches : Mth := (yX2_reaches, cX2_reaches, 6, (some .boolean))
abbrev mX2_remove : Mth := (yX2_remove, cX2_remove, 3, none)
abbrev mX2_rise : Mth := (yX2_rise, cX2_rise, 2, (some .long))
abbrev mX2_run : Mth := (yX2_run, cX2_run, 2, (some .long))
abbrev mX3_find : Mth := (yX3_find, cX3_find, 26, none)
abbrev mX3_findInOneRow : Mth := (yX3_findInOneRow, cX3_findInOneRow, 8, none)
abbrev mX3_isAhead : Mth := (yX3_isAhead, cX3_isAhead, 4, (some .boolean))
abbrev mX3_isAtOnePlace : Mth := (yX3_isAtOnePlace, cX3_isAtOnePlace, 1, (some .boolean))
abbrev mX3_layAt : Mth := (yX3_layAt, cX3_layAt, 11, none)
abbrev mX4_add : Mth := (yX4_add, cX4_add, 12, none)
abbrev mX4_addMeetings : Mth := (yX4_addMeetings, cX4_addMeetings, 4, none)
abbrev mX4_compareTo : Mth := (yX4_compareTo, cX4_compareTo, 11, (some .int))
abbrev mX4_countOn : Mth := (yX4_countOn, cX4_countOn, 4, (some .int))
abbrev mX4_countParts : Mth := (yX4_countParts, cX4_countParts, 2, none)
abbrev mX4_endsAt : Mth := (yX4_endsAt, cX4_endsAt, 5, (some .int))
abbrev mX4_facesAround : Mth := (yX4_facesAround, cX4_facesAround, 1, (some .int))
abbrev mX4_find : Mth := (yX4_find, cX4_find, 3, none)
abbrev mX4_linesThrough : Mth := (yX4_linesThrough, cX4_linesThrough, 5, (some .int))
abbrev mX4_rootOf : Mth := (yX4_rootOf, cX4_rootOf, 4, (some .int))
abbrev mX4_unite : Mth := (yX4_unite, cX4_unite, 5, none)
abbrev mX4_walkAlong : Mth := (yX4_walkAlong, cX4_walkAlong, 4, none)
abbrev mX5_firstOtherwise : Mth := (yX5_firstOtherwise, cX5_firstOtherwise, 7, (some .int))
abbrev mX5_hasRow : Mth := (yX5_hasRow, cX5_hasRow, 4, (some .boolean))
abbrev mX5_isMissing : Mth := (yX5_isMissing, cX5_isMissing, 2, (some .boolean))
abbrev mX5_isOne : Mth := (yX5_isOne, cX5_isOne, 2, (some .boolean))
abbrev mX5_isSort : Mth := (yX5_isSort, cX5_isSort, 2, (some .boolean))
abbrev mX5_item : Mth := (yX5_item, cX5_item, 3, (some .int))
abbrev mX5_make : Mth := (yX5_make, cX5_make, 5, none)
abbrev mX5_set : Mth := (yX5_set, cX5_set, 4, none)
abbrev mX6_addCell : Mth := (yX6_addCell, cX6_addCell, 4, none)
abbrev mX6_addCells : Mth := (yX6_addCells, cX6_addCells, 9, none)
abbrev mX6_cellAround : Mth := (yX6_cellAround, cX6_cellAround, 9, (some .int))
abbrev mX6_cut : Mth := (yX6_cut, cX6_cut, 5, none)
abbrev mX6_findXs : Mth := (yX6_findXs, cX6_findXs, 4, none)
abbrev mX7_compareTwo : Mth := (yX7_compareTwo, cX7_compareTwo, 5, (some .int))
abbrev mX7_let : Mth := (yX7_let, cX7_let, 5, none)
abbrev mX7_stand : Mth := (yX7_stand, cX7_stand, 7, none)
abbrev mX8_add : Mth := (yX8_add, cX8_add, 4, none)
abbrev mX8_addStep : Mth := (yX8_addStep, cX8_addStep, 7, none)
abbrev mX8_cellAt : Mth := (yX8_cellAt, cX8_cellAt, 8, (some .int))
abbrev mX8_find : Mth := (yX8_find, cX8_find, 7, none)
abbrev mX8_findSteps : Mth := (yX8_findSteps, cX8_findSteps, 7, none)
abbrev mX8_stepsUnder : Mth := (yX8_stepsUnder, cX8_stepsUnder, 7, (some .int))
abbrev mX8_uprightsAt : Mth := (yX8_uprightsAt, cX8_uprightsAt, 9, (some .int))
abbrev mX9_anew : Mth := (yX9_anew, cX9_anew, 1, (some .int))
abbrev mX9_back : Mth := (yX9_back, cX9_back, 1, (some .int))
abbrev mX9_canBeEnds : Mth := (yX9_canBeEnds, cX9_canBeEnds, 4, (some .boolean))
abbrev mX9_canBePlace : Mth := (yX9_canBePlace, cX9_canBePlace, 3, (some .boolean))
abbrev mX9_cell : Mth := (yX9_cell, cX9_cell, 3, (some .int))
abbrev mX9_chance : Mth := (yX9_chance, cX9_chance, 7, (some .int))
abbrev mX9_commonDivisor : Mth := (yX9_commonDivisor, cX9_commonDivisor, 11, (some .long))
abbrev mX9_compareFractions : Mth := (yX9_compareFractions, cX9_compareFractions, 12, (some .int))
abbrev mX9_coordinateBy : Mth := (yX9_coordinateBy, cX9_coordinateBy, 1, (some .int))
abbrev mX9_copy : Mth := (yX9_copy, cX9_copy, 6, (some .int))
abbrev mX9_count : Mth := (yX9_count, cX9_count, 2, (some .int))
abbrev mX9_cross : Mth := (yX9_cross, cX9_cross, 4, (some .int))
abbrev mX9_drawn : Mth := (yX9_drawn, cX9_drawn, 3, (some .int))
abbrev mX9_drop : Mth := (yX9_drop, cX9_drop, 2, (some .int))
abbrev mX9_face : Mth := (yX9_face, cX9_face, 3, (some .int))
abbrev mX9_facesDrawn : Mth := (yX9_facesDrawn, cX9_facesDrawn, 9, (some .int))
abbrev mX9_facesWithout : Mth := (yX9_facesWithout, cX9_facesWithout, 2, (some .int))
abbrev mX9_film : Mth := (yX9_film, cX9_film, 4, (some .int))
abbrev mX9_forgetWhatFollows : Mth := (yX9_forgetWhatFollows, cX9_forgetWhatFollows, 1, none)
abbrev mX9_hops : Mth := (yX9_hops, cX9_hops, 3, (some .int))
abbrev mX9_image : Mth := (yX9_image, cX9_image, 1, (some .int))
abbrev mX9_isCoordinate : Mth := (yX9_isCoordinate, cX9_isCoordinate, 1, (some .boolean))
abbrev mX9_knowFaces : Mth := (yX9_knowFaces, cX9_knowFaces, 1, none)
abbrev mX9_knowHulls : Mth := (yX9_knowHulls, cX9_knowHulls, 1, none)
abbrev mX9_knowPoints : Mth := (yX9_knowPoints, cX9_knowPoints, 1, none)
abbrev mX9_leastOf : Mth := (yX9_leastOf, cX9_leastOf, 2, (some .int))
abbrev mX9_line : Mth := (yX9_line, cX9_line, 5, (some .int))
abbrev mX9_linesOn : Mth := (yX9_linesOn, cX9_linesOn, 6, (some .int))
abbrev mX9_load : Mth := (yX9_load, cX9_load, 9, (some .int))
abbrev mX9_most : Mth := (yX9_most, cX9_most, 6, (some .int))
abbrev mX9_move : Mth := (yX9_move, cX9_move, 7, (some .int))
abbrev mX9_on : Mth := (yX9_on, cX9_on, 4, (some .int))
abbrev mX9_order : Mth := (yX9_order, cX9_order, 4, (some .int))
abbrev mX9_point : Mth := (yX9_point, cX9_point, 3, (some .int))
abbrev mX9_put : Mth := (yX9_put, cX9_put, 4, (some .int))
abbrev mX9_sheet : Mth := (yX9_sheet, cX9_sheet, 4, (some .int))
abbrev mX9_slab : Mth := (yX9_slab, cX9_slab, 3, (some .int))
abbrev mX9_taken : Mth := (yX9_taken, cX9_taken, 5, (some .int))
abbrev mX9_tells : Mth := (yX9_tells, cX9_tells, 4, (some .int))
abbrev mX9_told : Mth := (yX9_told, cX9_told, 3, (some .int))
abbrev mX9_toldWithout : Mth := (yX9_toldWithout, cX9_toldWithout, 5, (some .int))
abbrev mX9_toldXs : Mth := (yX9_toldXs, cX9_toldXs, 5, (some .int))
abbrev mX9_where : Mth := (yX9_where, cX9_where, 4, (some .int))
abbrev mX9_without : Mth := (yX9_without, cX9_without, 2, (some .int))
theorem q_1 : (Jvm.Cond.initialized "FacesOfLines") ∈ tbG := tbG_of (in_t1 (List.mem_of_getElem? (i := 1) (by decide +kernel))) rfl
theorem q_2 : (Jvm.Cond.initialized "FacesOfLines$Lines") ∈ tbG := tbG_of (in_t1 (List.mem_of_getElem? (i := 2) (by decide +kernel))) rfl
theorem q_3 : (Jvm.Cond.initialized "FacesOfLines$Points") ∈ tbG := tbG_of (in_t1 (List.mem_of_getElem? (i := 3) (by decide +kernel))) rfl
theorem q_4 : (Jvm.Cond.initialized "FacesOfLines$Meeting") ∈ tbG := tbG_of (in_t1 (List.mem_of_getElem? (i := 4) (by decide +kernel))) rfl
theorem q_5 : (Jvm.Cond.initialized "FacesOfLines$Standing") ∈ tbG := tbG_of (in_t1 (List.mem_of_getElem? (i := 5) (by decide +kernel))) rfl
theorem q_6 : (Jvm.Cond.initialized "FacesOfLines$Slabs") ∈ tbG := tbG_of (in_t1 (List.mem_of_getElem? (i := 6) (by decide +kernel))) rfl
theorem q_7 : (Jvm.Cond.initialized "FacesOfLines$Stretches") ∈ tbG := tbG_of (in_t1 (List.mem_of_getElem? (i := 7) (by decide +kernel))) rfl
theorem q_8 : (Jvm.Cond.initialized "FacesOfLines$Faces") ∈ tbG := tbG_of (in_t1 (List.mem_of_getElem? (i := 8) (by decide +kernel))) rfl
theorem q_9 : (Jvm.Cond.initialized "FacesOfLines$Hulls") ∈ tbG := tbG_of (in_t1 (List.mem_of_getElem? (i := 9) (by decide +kernel))) rfl
theorem q_10 : (Jvm.Cond.initialized "FacesOfLines$Sheets") ∈ tbG := tbG_of (in_t1 (List.mem_of_getElem? (i := 10) (by decide +kernel))) rfl
theorem q_11 : (Jvm.Cond.initialized "FacesOfLinesModel") ∈ tbG := tbG_of (in_t1 (List.mem_of_getElem? (i := 11) (by decide +kernel))) rfl
theorem q_12 : (Jvm.Cond.initialized "java/lang/Math") ∈ tbG := tbG_of (in_t1 (List.mem_of_getElem? (i := 12) (by decide +kernel))) rfl
theorem q_13 : (Jvm.Cond.initialized "java/lang/Integer") ∈ tbG := tbG_of (in_t1 (List.mem_of_getElem? (i := 13) (by decide +kernel))) rfl
theorem q_14 : (Jvm.Cond.initialized "java/lang/Long") ∈ tbG := tbG_of (in_t1 (List.mem_of_getElem? (i := 14) (by decide +kernel))) rfl
theorem q_15 : (Jvm.Cond.initialized "java/lang/System") ∈ tbG := tbG_of (in_t1 (List.mem_of_getElem? (i := 15) (by decide +kernel))) rfl
theorem q_30 : (Jvm.Cond.fieldLink "FacesOfLines$Lines" (24 : Nat) "FacesOfLines$Lines" "size" "I") ∈ tbG := tbG_of (in_t1 (List.mem_of_getElem? (i := 30) (by decide +kernel))) rfl
theorem q_31 : (Jvm.Cond.fieldLinkNest "FacesOfLines$Points" (45 : Nat) "FacesOfLines$Lines" "size" "I" "FacesOfLines") ∈ tbG := tbG_of (in_t1 (List.mem_of_getElem? (i := 31) (by decide +kernel))) rfl
theorem q_32 : (Jvm.Cond.fieldLinkNest "FacesOfLines$Hulls" (25 : Nat) "FacesOfLines$Lines" "size" "I" "FacesOfLines") ∈ tbG := tbG_of (in_t1 (List.mem_of_getElem? (i := 32) (by decide +kernel))) rfl
theorem q_33 : (Jvm.Cond.fieldLinkNest "FacesOfLines$Standing" (23 : Nat) "FacesOfLines$Lines" "size" "I" "FacesOfLines") ∈ tbG := tbG_of (in_t1 (List.mem_of_getElem? (i := 33) (by decide +kernel))) rfl
theorem q_34 : (Jvm.Cond.fieldLinkNest "FacesOfLines$Stretches" (71 : Nat) "FacesOfLines$Lines" "size" "I" "FacesOfLines") ∈ tbG := tbG_of (in_t1 (List.mem_of_getElem? (i := 34) (by decide +kernel))) rfl
theorem q_35 : (Jvm.Cond.fieldLinkNest "FacesOfLines" (104 : Nat) "FacesOfLines$Lines" "size" "I" "FacesOfLines") ∈ tbG := tbG_of (in_t1 (List.mem_of_getElem? (i := 35) (by decide +kernel))) rfl
theorem q_36 : (Jvm.Cond.fieldLink "FacesOfLines$Lines" (9 : Nat) "FacesOfLines$Lines" "ax" "[I") ∈ tbG := tbG_of (in_t1 (List.mem_of_getElem? (i := 36) (by decide +kernel))) rfl
theorem q_37 : (Jvm.Cond.fieldLinkNest "FacesOfLines$Points" (48 : Nat) "FacesOfLines$Lines" "ax" "[I" "FacesOfLines") ∈ tbG := tbG_of (in_t1 (List.mem_of_getElem? (i := 37) (by decide +kernel))) rfl
theorem q_38 : (Jvm.Cond.fieldLinkNest "FacesOfLines$Hulls" (30 : Nat) "FacesOfLines$Lines" "ax" "[I" "FacesOfLines") ∈ tbG := tbG_of (in_t1 (List.mem_of_getElem? (i := 38) (by decide +kernel))) rfl
theorem q_39 : (Jvm.Cond.fieldLinkNest "FacesOfLines$Meeting" (24 : Nat) "FacesOfLines$Lines" "ax" "[I" "FacesOfLines") ∈ tbG := tbG_of (in_t1 (List.mem_of_getElem? (i := 39) (by decide +kernel))) rfl
theorem q_40 : (Jvm.Cond.fieldLinkNest "FacesOfLines" (112 : Nat) "FacesOfLines$Lines" "ax" "[I" "FacesOfLines") ∈ tbG := tbG_of (in_t1 (List.mem_of_getElem? (i := 40) (by decide +kernel))) rfl
theorem q_41 : (Jvm.Cond.fieldLink "FacesOfLines$Lines" (15 : Nat) "FacesOfLines$Lines" "ay" "[I") ∈ tbG := tbG_of (in_t1 (List.mem_of_getElem? (i := 41) (by decide +kernel))) rfl
theorem q_42 : (Jvm.Cond.fieldLinkNest "FacesOfLines$Hulls" (33 : Nat) "FacesOfLines$Lines" "ay" "[I" "FacesOfLines") ∈ tbG := tbG_of (in_t1 (List.mem_of_getElem? (i := 42) (by decide +kernel))) rfl
theorem q_43 : (Jvm.Cond.fieldLinkNest "FacesOfLines$Points" (51 : Nat) "FacesOfLines$Lines" "ay" "[I" "FacesOfLines") ∈ tbG := tbG_of (in_t1 (List.mem_of_getElem? (i := 43) (by decide +kernel))) rfl
theorem q_44 : (Jvm.Cond.fieldLinkNest "FacesOfLines$Stretches" (82 : Nat) "FacesOfLines$Lines" "ay" "[I" "FacesOfLines") ∈ tbG := tbG_of (in_t1 (List.mem_of_getElem? (i := 44) (by decide +kernel))) rfl
theorem q_45 : (Jvm.Cond.fieldLinkNest "FacesOfLines$Meeting" (28 : Nat) "FacesOfLines$Lines" "ay" "[I" "FacesOfLines") ∈ tbG := tbG_of (in_t1 (List.mem_of_getElem? (i := 45) (by decide +kernel))) rfl
theorem q_46 : (Jvm.Cond.fieldLinkNest "FacesOfLines" (118 : Nat) "FacesOfLines$Lines" "ay" "[I" "FacesOfLines") ∈ tbG := tbG_of (in_t1 (List.mem_of_getElem? (i := 46) (by decide +kernel))) rfl
theorem q_47 : (Jvm.Cond.fieldLink "FacesOfLines$Lines" (18 : Nat) "FacesOfLines$Lines" "bx" "[I") ∈ tbG := tbG_of (in_t1 (List.mem_of_getElem? (i := 47) (by decide +kernel))) rfl
theorem q_48 : (Jvm.Cond.fieldLinkNest "FacesOfLines$Hulls" (40 : Nat) "FacesOfLines$Lines" "bx" "[I" "FacesOfLines") ∈ tbG := tbG_of (in_t1 (List.mem_of_getElem? (i := 48) (by decide +kernel))) rfl
theorem q_49 : (Jvm.Cond.fieldLinkNest "FacesOfLines$Points" (58 : Nat) "FacesOfLines$Lines" "bx" "[I" "FacesOfLines") ∈ tbG := tbG_of (in_t1 (List.mem_of_getElem? (i := 49) (by decide +kernel))) rfl
theorem q_50 : (Jvm.Cond.fieldLinkNest "FacesOfLines$Meeting" (43 : Nat) "FacesOfLines$Lines" "bx" "[I" "FacesOfLines") ∈ tbG := tbG_of (in_t1 (List.mem_of_getElem? (i := 50) (by decide +kernel))) rfl
theorem q_51 : (Jvm.Cond.fieldLinkNest "FacesOfLines" (108 : Nat) "FacesOfLines$Lines" "bx" "[I" "FacesOfLines") ∈ tbG := tbG_of (in_t1 (List.mem_of_getElem? (i := 51) (by decide +kernel))) rfl
theorem q_52 : (Jvm.Cond.fieldLink "FacesOfLines$Lines" (21 : Nat) "FacesOfLines$Lines" "by" "[I") ∈ tbG := tbG_of (in_t1 (List.mem_of_getElem? (i := 52) (by decide +kernel))) rfl
theorem q_53 : (Jvm.Cond.fieldLinkNest "FacesOfLines$Hulls" (43 : Nat) "FacesOfLines$Lines" "by" "[I" "FacesOfLines") ∈ tbG := tbG_of (in_t1 (List.mem_of_getElem? (i := 53) (by decide +kernel))) rfl
theorem q_54 : (Jvm.Cond.fieldLinkNest "FacesOfLines$Points" (61 : Nat) "FacesOfLines$Lines" "by" "[I" "FacesOfLines") ∈ tbG := tbG_of (in_t1 (List.mem_of_getElem? (i := 54) (by decide +kernel))) rfl
theorem q_55 : (Jvm.Cond.fieldLinkNest "FacesOfLines$Stretches" (89 : Nat) "FacesOfLines$Lines" "by" "[I" "FacesOfLines") ∈ tbG := tbG_of (in_t1 (List.mem_of_getElem? (i := 55) (by decide +kernel))) rfl
theorem q_56 : (Jvm.Cond.fieldLinkNest "FacesOfLines$Meeting" (46 : Nat) "FacesOfLines$Lines" "by" "[I" "FacesOfLines") ∈ tbG := tbG_of (in_t1 (List.mem_of_getElem? (i := 56) (by decide +kernel))) rfl
theorem q_57 : (Jvm.Cond.fieldLinkNest "FacesOfLines" (115 : Nat) "FacesOfLines$Lines" "by" "[I" "FacesOfLines") ∈ tbG := tbG_of (in_t1 (List.mem_of_getElem? (i := 57) (by decide +kernel))) rfl
theorem q_82 : (Jvm.Cond.fieldLink "FacesOfLines$Meeting" (9 : Nat) "FacesOfLines$Meeting" "kind" "I") ∈ tbG := tbG_of (in_t1 (List.mem_of_getElem? (i := 82) (by decide +kernel))) rfl
theorem q_83 : (Jvm.Cond.fieldLinkNest "FacesOfLines$Points" (86 : Nat) "FacesOfLines$Meeting" "kind" "I" "FacesOfLines") ∈ tbG := tbG_of (in_t1 (List.mem_of_getElem? (i := 83) (by decide +kernel))) rfl
theorem q_84 : (Jvm.Cond.fieldLinkNest "FacesOfLines" (150 : Nat) "FacesOfLines$Meeting" "kind" "I" "FacesOfLines") ∈ tbG := tbG_of (in_t1 (List.mem_of_getElem? (i := 84) (by decide +kernel))) rfl
theorem q_85 : (Jvm.Cond.fieldLinkNest "FacesOfLines$Points" (89 : Nat) "FacesOfLines$Meeting" "xn" "J" "FacesOfLines") ∈ tbG := tbG_of (in_t1 (List.mem_of_getElem? (i := 85) (by decide +kernel))) rfl
theorem q_86 : (Jvm.Cond.fieldLink "FacesOfLines$Meeting" (49 : Nat) "FacesOfLines$Meeting" "xn" "J") ∈ tbG := tbG_of (in_t1 (List.mem_of_getElem? (i := 86) (by decide +kernel))) rfl
theorem q_87 : (Jvm.Cond.fieldLinkNest "FacesOfLines" (156 : Nat) "FacesOfLines$Meeting" "xn" "J" "FacesOfLines") ∈ tbG := tbG_of (in_t1 (List.mem_of_getElem? (i := 87) (by decide +kernel))) rfl
theorem q_88 : (Jvm.Cond.fieldLinkNest "FacesOfLines$Points" (92 : Nat) "FacesOfLines$Meeting" "xd" "J" "FacesOfLines") ∈ tbG := tbG_of (in_t1 (List.mem_of_getElem? (i := 88) (by decide +kernel))) rfl
theorem q_89 : (Jvm.Cond.fieldLink "FacesOfLines$Meeting" (53 : Nat) "FacesOfLines$Meeting" "xd" "J") ∈ tbG := tbG_of (in_t1 (List.mem_of_getElem? (i := 89) (by decide +kernel))) rfl
theorem q_90 : (Jvm.Cond.fieldLinkNest "FacesOfLines" (160 : Nat) "FacesOfLines$Meeting" "xd" "J" "FacesOfLines") ∈ tbG := tbG_of (in_t1 (List.mem_of_getElem? (i := 90) (by decide +kernel))) rfl
theorem q_91 : (Jvm.Cond.fieldLinkNest "FacesOfLines$Points" (94 : Nat) "FacesOfLines$Meeting" "yn" "J" "FacesOfLines") ∈ tbG := tbG_of (in_t1 (List.mem_of_getElem? (i := 91) (by decide +kernel))) rfl
theorem q_92 : (Jvm.Cond.fieldLink "FacesOfLines$Meeting" (56 : Nat) "FacesOfLines$Meeting" "yn" "J") ∈ tbG := tbG_of (in_t1 (List.mem_of_getElem? (i := 92) (by decide +kernel))) rfl
theorem q_93 : (Jvm.Cond.fieldLinkNest "FacesOfLines" (163 : Nat) "FacesOfLines$Meeting" "yn" "J" "FacesOfLines") ∈ tbG := tbG_of (in_t1 (List.mem_of_getElem? (i := 93) (by decide +kernel))) rfl
theorem q_94 : (Jvm.Cond.fieldLinkNest "FacesOfLines$Points" (96 : Nat) "FacesOfLines$Meeting" "yd" "J" "FacesOfLines") ∈ tbG := tbG_of (in_t1 (List.mem_of_getElem? (i := 94) (by decide +kernel))) rfl
theorem q_95 : (Jvm.Cond.fieldLink "FacesOfLines$Meeting" (59 : Nat) "FacesOfLines$Meeting" "yd" "J") ∈ tbG := tbG_of (in_t1 (List.mem_of_getElem? (i := 95) (by decide +kernel))) rfl
theorem q_96 : (Jvm.Cond.fieldLinkNest "FacesOfLines" (166 : Nat) "FacesOfLines$Meeting" "yd" "J" "FacesOfLines") ∈ tbG := tbG_of (in_t1 (List.mem_of_getElem? (i := 96) (by decide +kernel))) rfl
theorem q_109 : (Jvm.Cond.fieldLink "FacesOfLines$Points" (41 : Nat) "FacesOfLines$Points" "size" "I") ∈ tbG := tbG_of (in_t1 (List.mem_of_getElem? (i := 109) (by decide +kernel))) rfl
theorem q_110 : (Jvm.Cond.fieldLinkNest "FacesOfLines$Slabs" (56 : Nat) "FacesOfLines$Points" "size" "I" "FacesOfLines") ∈ tbG := tbG_of (in_t1 (List.mem_of_getElem? (i := 110) (by decide +kernel))) rfl
theorem q_111 : (Jvm.Cond.fieldLinkNest "FacesOfLines" (169 : Nat) "FacesOfLines$Points" "size" "I" "FacesOfLines") ∈ tbG := tbG_of (in_t1 (List.mem_of_getElem? (i := 111) (by decide +kernel))) rfl
theorem q_112 : (Jvm.Cond.fieldLink "FacesOfLines$Points" (72 : Nat) "FacesOfLines$Points" "pieces" "I") ∈ tbG := tbG_of (in_t1 (List.mem_of_getElem? (i := 112) (by decide +kernel))) rfl
theorem q_113 : (Jvm.Cond.fieldLinkNest "FacesOfLines" (259 : Nat) "FacesOfLines$Points" "pieces" "I" "FacesOfLines") ∈ tbG := tbG_of (in_t1 (List.mem_of_getElem? (i := 113) (by decide +kernel))) rfl
theorem q_114 : (Jvm.Cond.fieldLink "FacesOfLines$Points" (130 : Nat) "FacesOfLines$Points" "parts" "I") ∈ tbG := tbG_of (in_t1 (List.mem_of_getElem? (i := 114) (by decide +kernel))) rfl
theorem q_115 : (Jvm.Cond.fieldLinkNest "FacesOfLines" (262 : Nat) "FacesOfLines$Points" "parts" "I" "FacesOfLines") ∈ tbG := tbG_of (in_t1 (List.mem_of_getElem? (i := 115) (by decide +kernel))) rfl
theorem q_116 : (Jvm.Cond.fieldLink "FacesOfLines$Points" (9 : Nat) "FacesOfLines$Points" "xn" "[J") ∈ tbG := tbG_of (in_t1 (List.mem_of_getElem? (i := 116) (by decide +kernel))) rfl
theorem q_117 : (Jvm.Cond.fieldLinkNest "FacesOfLines$Slabs" (61 : Nat) "FacesOfLines$Points" "xn" "[J" "FacesOfLines") ∈ tbG := tbG_of (in_t1 (List.mem_of_getElem? (i := 117) (by decide +kernel))) rfl
theorem q_118 : (Jvm.Cond.fieldLinkNest "FacesOfLines" (170 : Nat) "FacesOfLines$Points" "xn" "[J" "FacesOfLines") ∈ tbG := tbG_of (in_t1 (List.mem_of_getElem? (i := 118) (by decide +kernel))) rfl
theorem q_119 : (Jvm.Cond.fieldLink "FacesOfLines$Points" (15 : Nat) "FacesOfLines$Points" "xd" "[J") ∈ tbG := tbG_of (in_t1 (List.mem_of_getElem? (i := 119) (by decide +kernel))) rfl
theorem q_120 : (Jvm.Cond.fieldLinkNest "FacesOfLines$Slabs" (62 : Nat) "FacesOfLines$Points" "xd" "[J" "FacesOfLines") ∈ tbG := tbG_of (in_t1 (List.mem_of_getElem? (i := 120) (by decide +kernel))) rfl
theorem q_121 : (Jvm.Cond.fieldLinkNest "FacesOfLines" (173 : Nat) "FacesOfLines$Points" "xd" "[J" "FacesOfLines") ∈ tbG := tbG_of (in_t1 (List.mem_of_getElem? (i := 121) (by decide +kernel))) rfl
theorem q_122 : (Jvm.Cond.fieldLink "FacesOfLines$Points" (18 : Nat) "FacesOfLines$Points" "yn" "[J") ∈ tbG := tbG_of (in_t1 (List.mem_of_getElem? (i := 122) (by decide +kernel))) rfl
theorem q_123 : (Jvm.Cond.fieldLinkNest "FacesOfLines" (175 : Nat) "FacesOfLines$Points" "yn" "[J" "FacesOfLines") ∈ tbG := tbG_of (in_t1 (List.mem_of_getElem? (i := 123) (by decide +kernel))) rfl
theorem q_124 : (Jvm.Cond.fieldLink "FacesOfLines$Points" (21 : Nat) "FacesOfLines$Points" "yd" "[J") ∈ tbG := tbG_of (in_t1 (List.mem_of_getElem? (i := 124) (by decide +kernel))) rfl
theorem q_125 : (Jvm.Cond.fieldLinkNest "FacesOfLines" (177 : Nat) "FacesOfLines$Points" "yd" "[J" "FacesOfLines") ∈ tbG := tbG_of (in_t1 (List.mem_of_getElem? (i := 125) (by decide +kernel))) rfl
theorem q_126 : (Jvm.Cond.fieldLink "FacesOfLines$Points" (24 : Nat) "FacesOfLines$Points" "through" "[I") ∈ tbG := tbG_of (in_t1 (List.mem_of_getElem? (i := 126) (by decide +kernel))) rfl
theorem q_127 : (Jvm.Cond.fieldLinkNest "FacesOfLines" (179 : Nat) "FacesOfLines$Points" "through" "[I" "FacesOfLines") ∈ tbG := tbG_of (in_t1 (List.mem_of_getElem? (i := 127) (by decide +kernel))) rfl
theorem q_128 : (Jvm.Cond.fieldLink "FacesOfLines$Points" (28 : Nat) "FacesOfLines$Points" "part" "[I") ∈ tbG := tbG_of (in_t1 (List.mem_of_getElem? (i := 128) (by decide +kernel))) rfl
theorem q_129 : (Jvm.Cond.fieldLinkNest "FacesOfLines" (186 : Nat) "FacesOfLines$Points" "part" "[I" "FacesOfLines") ∈ tbG := tbG_of (in_t1 (List.mem_of_getElem? (i := 129) (by decide +kernel))) rfl
theorem q_130 : (Jvm.Cond.fieldLink "FacesOfLines$Points" (31 : Nat) "FacesOfLines$Points" "twos" "[I") ∈ tbG := tbG_of (in_t1 (List.mem_of_getElem? (i := 130) (by decide +kernel))) rfl
theorem q_131 : (Jvm.Cond.fieldLinkNest "FacesOfLines" (266 : Nat) "FacesOfLines$Points" "twos" "[I" "FacesOfLines") ∈ tbG := tbG_of (in_t1 (List.mem_of_getElem? (i := 131) (by decide +kernel))) rfl
theorem q_132 : (Jvm.Cond.fieldLink "FacesOfLines$Points" (37 : Nat) "FacesOfLines$Points" "meeting" "LFacesOfLines$Meeting;") ∈ tbG := tbG_of (in_t1 (List.mem_of_getElem? (i := 132) (by decide +kernel))) rfl
theorem q_164 : (Jvm.Cond.fieldLink "FacesOfLines$Standing" (19 : Nat) "FacesOfLines$Standing" "size" "I") ∈ tbG := tbG_of (in_t1 (List.mem_of_getElem? (i := 164) (by decide +kernel))) rfl
theorem q_165 : (Jvm.Cond.fieldLinkNest "FacesOfLines$Slabs" (67 : Nat) "FacesOfLines$Standing" "size" "I" "FacesOfLines") ∈ tbG := tbG_of (in_t1 (List.mem_of_getElem? (i := 165) (by decide +kernel))) rfl
theorem q_166 : (Jvm.Cond.fieldLinkNest "FacesOfLines$Sheets" (21 : Nat) "FacesOfLines$Standing" "size" "I" "FacesOfLines") ∈ tbG := tbG_of (in_t1 (List.mem_of_getElem? (i := 166) (by decide +kernel))) rfl
theorem q_167 : (Jvm.Cond.fieldLinkNest "FacesOfLines" (193 : Nat) "FacesOfLines$Standing" "size" "I" "FacesOfLines") ∈ tbG := tbG_of (in_t1 (List.mem_of_getElem? (i := 167) (by decide +kernel))) rfl
theorem q_168 : (Jvm.Cond.fieldLink "FacesOfLines$Standing" (9 : Nat) "FacesOfLines$Standing" "row" "[I") ∈ tbG := tbG_of (in_t1 (List.mem_of_getElem? (i := 168) (by decide +kernel))) rfl
theorem q_169 : (Jvm.Cond.fieldLinkNest "FacesOfLines$Slabs" (68 : Nat) "FacesOfLines$Standing" "row" "[I" "FacesOfLines") ∈ tbG := tbG_of (in_t1 (List.mem_of_getElem? (i := 169) (by decide +kernel))) rfl
theorem q_170 : (Jvm.Cond.fieldLinkNest "FacesOfLines$Sheets" (26 : Nat) "FacesOfLines$Standing" "row" "[I" "FacesOfLines") ∈ tbG := tbG_of (in_t1 (List.mem_of_getElem? (i := 170) (by decide +kernel))) rfl
theorem q_171 : (Jvm.Cond.fieldLinkNest "FacesOfLines" (194 : Nat) "FacesOfLines$Standing" "row" "[I" "FacesOfLines") ∈ tbG := tbG_of (in_t1 (List.mem_of_getElem? (i := 171) (by decide +kernel))) rfl
theorem q_172 : (Jvm.Cond.fieldLink "FacesOfLines$Standing" (15 : Nat) "FacesOfLines$Standing" "height" "[J") ∈ tbG := tbG_of (in_t1 (List.mem_of_getElem? (i := 172) (by decide +kernel))) rfl
theorem q_186 : (Jvm.Cond.fieldLinkNest "FacesOfLines$Stretches" (38 : Nat) "FacesOfLines$Slabs" "xs" "I" "FacesOfLines") ∈ tbG := tbG_of (in_t1 (List.mem_of_getElem? (i := 186) (by decide +kernel))) rfl
theorem q_187 : (Jvm.Cond.fieldLink "FacesOfLines$Slabs" (39 : Nat) "FacesOfLines$Slabs" "xs" "I") ∈ tbG := tbG_of (in_t1 (List.mem_of_getElem? (i := 187) (by decide +kernel))) rfl
theorem q_188 : (Jvm.Cond.fieldLinkNest "FacesOfLines" (200 : Nat) "FacesOfLines$Slabs" "xs" "I" "FacesOfLines") ∈ tbG := tbG_of (in_t1 (List.mem_of_getElem? (i := 188) (by decide +kernel))) rfl
theorem q_189 : (Jvm.Cond.fieldLinkNest "FacesOfLines$Faces" (31 : Nat) "FacesOfLines$Slabs" "cells" "I" "FacesOfLines") ∈ tbG := tbG_of (in_t1 (List.mem_of_getElem? (i := 189) (by decide +kernel))) rfl
theorem q_190 : (Jvm.Cond.fieldLink "FacesOfLines$Slabs" (35 : Nat) "FacesOfLines$Slabs" "cells" "I") ∈ tbG := tbG_of (in_t1 (List.mem_of_getElem? (i := 190) (by decide +kernel))) rfl
theorem q_191 : (Jvm.Cond.fieldLinkNest "FacesOfLines" (208 : Nat) "FacesOfLines$Slabs" "cells" "I" "FacesOfLines") ∈ tbG := tbG_of (in_t1 (List.mem_of_getElem? (i := 191) (by decide +kernel))) rfl
theorem q_192 : (Jvm.Cond.fieldLink "FacesOfLines$Slabs" (9 : Nat) "FacesOfLines$Slabs" "xn" "[J") ∈ tbG := tbG_of (in_t1 (List.mem_of_getElem? (i := 192) (by decide +kernel))) rfl
theorem q_193 : (Jvm.Cond.fieldLinkNest "FacesOfLines$Stretches" (43 : Nat) "FacesOfLines$Slabs" "xn" "[J" "FacesOfLines") ∈ tbG := tbG_of (in_t1 (List.mem_of_getElem? (i := 193) (by decide +kernel))) rfl
theorem q_194 : (Jvm.Cond.fieldLinkNest "FacesOfLines" (206 : Nat) "FacesOfLines$Slabs" "xn" "[J" "FacesOfLines") ∈ tbG := tbG_of (in_t1 (List.mem_of_getElem? (i := 194) (by decide +kernel))) rfl
theorem q_195 : (Jvm.Cond.fieldLink "FacesOfLines$Slabs" (15 : Nat) "FacesOfLines$Slabs" "xd" "[J") ∈ tbG := tbG_of (in_t1 (List.mem_of_getElem? (i := 195) (by decide +kernel))) rfl
theorem q_196 : (Jvm.Cond.fieldLinkNest "FacesOfLines$Stretches" (46 : Nat) "FacesOfLines$Slabs" "xd" "[J" "FacesOfLines") ∈ tbG := tbG_of (in_t1 (List.mem_of_getElem? (i := 196) (by decide +kernel))) rfl
theorem q_197 : (Jvm.Cond.fieldLinkNest "FacesOfLines" (207 : Nat) "FacesOfLines$Slabs" "xd" "[J" "FacesOfLines") ∈ tbG := tbG_of (in_t1 (List.mem_of_getElem? (i := 197) (by decide +kernel))) rfl
theorem q_198 : (Jvm.Cond.fieldLink "FacesOfLines$Slabs" (18 : Nat) "FacesOfLines$Slabs" "first" "[I") ∈ tbG := tbG_of (in_t1 (List.mem_of_getElem? (i := 198) (by decide +kernel))) rfl
theorem q_199 : (Jvm.Cond.fieldLinkNest "FacesOfLines$Stretches" (53 : Nat) "FacesOfLines$Slabs" "first" "[I" "FacesOfLines") ∈ tbG := tbG_of (in_t1 (List.mem_of_getElem? (i := 199) (by decide +kernel))) rfl
theorem q_200 : (Jvm.Cond.fieldLinkNest "FacesOfLines" (203 : Nat) "FacesOfLines$Slabs" "first" "[I" "FacesOfLines") ∈ tbG := tbG_of (in_t1 (List.mem_of_getElem? (i := 200) (by decide +kernel))) rfl
theorem q_201 : (Jvm.Cond.fieldLink "FacesOfLines$Slabs" (22 : Nat) "FacesOfLines$Slabs" "slabOf" "[I") ∈ tbG := tbG_of (in_t1 (List.mem_of_getElem? (i := 201) (by decide +kernel))) rfl
theorem q_202 : (Jvm.Cond.fieldLinkNest "FacesOfLines" (211 : Nat) "FacesOfLines$Slabs" "slabOf" "[I" "FacesOfLines") ∈ tbG := tbG_of (in_t1 (List.mem_of_getElem? (i := 202) (by decide +kernel))) rfl
theorem q_203 : (Jvm.Cond.fieldLink "FacesOfLines$Slabs" (25 : Nat) "FacesOfLines$Slabs" "below" "[I") ∈ tbG := tbG_of (in_t1 (List.mem_of_getElem? (i := 203) (by decide +kernel))) rfl
theorem q_204 : (Jvm.Cond.fieldLinkNest "FacesOfLines$Faces" (80 : Nat) "FacesOfLines$Slabs" "below" "[I" "FacesOfLines") ∈ tbG := tbG_of (in_t1 (List.mem_of_getElem? (i := 204) (by decide +kernel))) rfl
theorem q_205 : (Jvm.Cond.fieldLinkNest "FacesOfLines" (217 : Nat) "FacesOfLines$Slabs" "below" "[I" "FacesOfLines") ∈ tbG := tbG_of (in_t1 (List.mem_of_getElem? (i := 205) (by decide +kernel))) rfl
theorem q_206 : (Jvm.Cond.fieldLink "FacesOfLines$Slabs" (28 : Nat) "FacesOfLines$Slabs" "above" "[I") ∈ tbG := tbG_of (in_t1 (List.mem_of_getElem? (i := 206) (by decide +kernel))) rfl
theorem q_207 : (Jvm.Cond.fieldLinkNest "FacesOfLines$Stretches" (108 : Nat) "FacesOfLines$Slabs" "above" "[I" "FacesOfLines") ∈ tbG := tbG_of (in_t1 (List.mem_of_getElem? (i := 207) (by decide +kernel))) rfl
theorem q_208 : (Jvm.Cond.fieldLinkNest "FacesOfLines$Faces" (83 : Nat) "FacesOfLines$Slabs" "above" "[I" "FacesOfLines") ∈ tbG := tbG_of (in_t1 (List.mem_of_getElem? (i := 208) (by decide +kernel))) rfl
theorem q_209 : (Jvm.Cond.fieldLinkNest "FacesOfLines" (223 : Nat) "FacesOfLines$Slabs" "above" "[I" "FacesOfLines") ∈ tbG := tbG_of (in_t1 (List.mem_of_getElem? (i := 209) (by decide +kernel))) rfl
theorem q_233 : (Jvm.Cond.fieldLink "FacesOfLines$Stretches" (34 : Nat) "FacesOfLines$Stretches" "size" "I") ∈ tbG := tbG_of (in_t1 (List.mem_of_getElem? (i := 233) (by decide +kernel))) rfl
theorem q_234 : (Jvm.Cond.fieldLinkNest "FacesOfLines$Faces" (36 : Nat) "FacesOfLines$Stretches" "size" "I" "FacesOfLines") ∈ tbG := tbG_of (in_t1 (List.mem_of_getElem? (i := 234) (by decide +kernel))) rfl
theorem q_235 : (Jvm.Cond.fieldLink "FacesOfLines$Stretches" (9 : Nat) "FacesOfLines$Stretches" "left" "[I") ∈ tbG := tbG_of (in_t1 (List.mem_of_getElem? (i := 235) (by decide +kernel))) rfl
theorem q_236 : (Jvm.Cond.fieldLinkNest "FacesOfLines$Faces" (44 : Nat) "FacesOfLines$Stretches" "left" "[I" "FacesOfLines") ∈ tbG := tbG_of (in_t1 (List.mem_of_getElem? (i := 236) (by decide +kernel))) rfl
theorem q_237 : (Jvm.Cond.fieldLink "FacesOfLines$Stretches" (15 : Nat) "FacesOfLines$Stretches" "right" "[I") ∈ tbG := tbG_of (in_t1 (List.mem_of_getElem? (i := 237) (by decide +kernel))) rfl
theorem q_238 : (Jvm.Cond.fieldLinkNest "FacesOfLines$Faces" (47 : Nat) "FacesOfLines$Stretches" "right" "[I" "FacesOfLines") ∈ tbG := tbG_of (in_t1 (List.mem_of_getElem? (i := 238) (by decide +kernel))) rfl
theorem q_239 : (Jvm.Cond.fieldLink "FacesOfLines$Stretches" (18 : Nat) "FacesOfLines$Stretches" "uprights" "[I") ∈ tbG := tbG_of (in_t1 (List.mem_of_getElem? (i := 239) (by decide +kernel))) rfl
theorem q_240 : (Jvm.Cond.fieldLinkNest "FacesOfLines$Faces" (41 : Nat) "FacesOfLines$Stretches" "uprights" "[I" "FacesOfLines") ∈ tbG := tbG_of (in_t2 (List.mem_of_getElem? (i := 0) (by decide +kernel))) rfl
theorem q_241 : (Jvm.Cond.fieldLink "FacesOfLines$Stretches" (56 : Nat) "FacesOfLines$Stretches" "steps" "I") ∈ tbG := tbG_of (in_t2 (List.mem_of_getElem? (i := 1) (by decide +kernel))) rfl
theorem q_242 : (Jvm.Cond.fieldLink "FacesOfLines$Stretches" (21 : Nat) "FacesOfLines$Stretches" "stepN" "[J") ∈ tbG := tbG_of (in_t2 (List.mem_of_getElem? (i := 2) (by decide +kernel))) rfl
theorem q_243 : (Jvm.Cond.fieldLink "FacesOfLines$Stretches" (25 : Nat) "FacesOfLines$Stretches" "stepD" "[J") ∈ tbG := tbG_of (in_t2 (List.mem_of_getElem? (i := 3) (by decide +kernel))) rfl
theorem q_244 : (Jvm.Cond.fieldLink "FacesOfLines$Stretches" (28 : Nat) "FacesOfLines$Stretches" "low" "[I") ∈ tbG := tbG_of (in_t2 (List.mem_of_getElem? (i := 4) (by decide +kernel))) rfl
theorem q_245 : (Jvm.Cond.fieldLink "FacesOfLines$Stretches" (31 : Nat) "FacesOfLines$Stretches" "high" "[I") ∈ tbG := tbG_of (in_t2 (List.mem_of_getElem? (i := 5) (by decide +kernel))) rfl
theorem q_271 : (Jvm.Cond.fieldLink "FacesOfLines$Faces" (79 : Nat) "FacesOfLines$Faces" "size" "I") ∈ tbG := tbG_of (in_t2 (List.mem_of_getElem? (i := 31) (by decide +kernel))) rfl
theorem q_272 : (Jvm.Cond.fieldLinkNest "FacesOfLines" (226 : Nat) "FacesOfLines$Faces" "size" "I" "FacesOfLines") ∈ tbG := tbG_of (in_t2 (List.mem_of_getElem? (i := 32) (by decide +kernel))) rfl
theorem q_273 : (Jvm.Cond.fieldLink "FacesOfLines$Faces" (9 : Nat) "FacesOfLines$Faces" "root" "[I") ∈ tbG := tbG_of (in_t2 (List.mem_of_getElem? (i := 33) (by decide +kernel))) rfl
theorem q_274 : (Jvm.Cond.fieldLink "FacesOfLines$Faces" (15 : Nat) "FacesOfLines$Faces" "of" "[I") ∈ tbG := tbG_of (in_t2 (List.mem_of_getElem? (i := 34) (by decide +kernel))) rfl
theorem q_275 : (Jvm.Cond.fieldLinkNest "FacesOfLines" (214 : Nat) "FacesOfLines$Faces" "of" "[I" "FacesOfLines") ∈ tbG := tbG_of (in_t2 (List.mem_of_getElem? (i := 35) (by decide +kernel))) rfl
theorem q_276 : (Jvm.Cond.fieldLink "FacesOfLines$Faces" (18 : Nat) "FacesOfLines$Faces" "least" "[I") ∈ tbG := tbG_of (in_t2 (List.mem_of_getElem? (i := 36) (by decide +kernel))) rfl
theorem q_277 : (Jvm.Cond.fieldLinkNest "FacesOfLines" (227 : Nat) "FacesOfLines$Faces" "least" "[I" "FacesOfLines") ∈ tbG := tbG_of (in_t2 (List.mem_of_getElem? (i := 37) (by decide +kernel))) rfl
theorem q_278 : (Jvm.Cond.fieldLink "FacesOfLines$Faces" (21 : Nat) "FacesOfLines$Faces" "cells" "[I") ∈ tbG := tbG_of (in_t2 (List.mem_of_getElem? (i := 38) (by decide +kernel))) rfl
theorem q_279 : (Jvm.Cond.fieldLinkNest "FacesOfLines" (230 : Nat) "FacesOfLines$Faces" "cells" "[I" "FacesOfLines") ∈ tbG := tbG_of (in_t2 (List.mem_of_getElem? (i := 39) (by decide +kernel))) rfl
theorem q_280 : (Jvm.Cond.fieldLink "FacesOfLines$Faces" (24 : Nat) "FacesOfLines$Faces" "borders" "[I") ∈ tbG := tbG_of (in_t2 (List.mem_of_getElem? (i := 40) (by decide +kernel))) rfl
theorem q_281 : (Jvm.Cond.fieldLinkNest "FacesOfLines" (232 : Nat) "FacesOfLines$Faces" "borders" "[I" "FacesOfLines") ∈ tbG := tbG_of (in_t2 (List.mem_of_getElem? (i := 41) (by decide +kernel))) rfl
theorem q_282 : (Jvm.Cond.fieldLink "FacesOfLines$Faces" (27 : Nat) "FacesOfLines$Faces" "next" "[J") ∈ tbG := tbG_of (in_t2 (List.mem_of_getElem? (i := 42) (by decide +kernel))) rfl
theorem q_283 : (Jvm.Cond.fieldLinkNest "FacesOfLines" (235 : Nat) "FacesOfLines$Faces" "next" "[J" "FacesOfLines") ∈ tbG := tbG_of (in_t2 (List.mem_of_getElem? (i := 43) (by decide +kernel))) rfl
theorem q_305 : (Jvm.Cond.fieldLink "FacesOfLines$Hulls" (46 : Nat) "FacesOfLines$Hulls" "size" "I") ∈ tbG := tbG_of (in_t2 (List.mem_of_getElem? (i := 65) (by decide +kernel))) rfl
theorem q_306 : (Jvm.Cond.fieldLinkNest "FacesOfLines" (265 : Nat) "FacesOfLines$Hulls" "size" "I" "FacesOfLines") ∈ tbG := tbG_of (in_t2 (List.mem_of_getElem? (i := 66) (by decide +kernel))) rfl
theorem q_307 : (Jvm.Cond.fieldLink "FacesOfLines$Hulls" (21 : Nat) "FacesOfLines$Hulls" "places" "I") ∈ tbG := tbG_of (in_t2 (List.mem_of_getElem? (i := 67) (by decide +kernel))) rfl
theorem q_308 : (Jvm.Cond.fieldLink "FacesOfLines$Hulls" (9 : Nat) "FacesOfLines$Hulls" "x" "[I") ∈ tbG := tbG_of (in_t2 (List.mem_of_getElem? (i := 68) (by decide +kernel))) rfl
theorem q_309 : (Jvm.Cond.fieldLink "FacesOfLines$Hulls" (15 : Nat) "FacesOfLines$Hulls" "y" "[I") ∈ tbG := tbG_of (in_t2 (List.mem_of_getElem? (i := 69) (by decide +kernel))) rfl
theorem q_310 : (Jvm.Cond.fieldLink "FacesOfLines$Hulls" (18 : Nat) "FacesOfLines$Hulls" "hull" "[I") ∈ tbG := tbG_of (in_t2 (List.mem_of_getElem? (i := 70) (by decide +kernel))) rfl
theorem q_328 : (Jvm.Cond.fieldLink "FacesOfLines$Sheets" (9 : Nat) "FacesOfLines$Sheets" "sort" "[I") ∈ tbG := tbG_of (in_t2 (List.mem_of_getElem? (i := 88) (by decide +kernel))) rfl
theorem q_329 : (Jvm.Cond.fieldLinkNest "FacesOfLines" (319 : Nat) "FacesOfLines$Sheets" "sort" "[I" "FacesOfLines") ∈ tbG := tbG_of (in_t2 (List.mem_of_getElem? (i := 89) (by decide +kernel))) rfl
theorem q_330 : (Jvm.Cond.fieldLink "FacesOfLines$Sheets" (15 : Nat) "FacesOfLines$Sheets" "size" "[I") ∈ tbG := tbG_of (in_t2 (List.mem_of_getElem? (i := 90) (by decide +kernel))) rfl
theorem q_331 : (Jvm.Cond.fieldLinkNest "FacesOfLines" (288 : Nat) "FacesOfLines$Sheets" "size" "[I" "FacesOfLines") ∈ tbG := tbG_of (in_t2 (List.mem_of_getElem? (i := 91) (by decide +kernel))) rfl
theorem q_332 : (Jvm.Cond.fieldLink "FacesOfLines$Sheets" (18 : Nat) "FacesOfLines$Sheets" "items" "[I") ∈ tbG := tbG_of (in_t2 (List.mem_of_getElem? (i := 92) (by decide +kernel))) rfl
theorem q_333 : (Jvm.Cond.fieldLinkNest "FacesOfLines" (325 : Nat) "FacesOfLines$Sheets" "items" "[I" "FacesOfLines") ∈ tbG := tbG_of (in_t2 (List.mem_of_getElem? (i := 93) (by decide +kernel))) rfl
theorem q_341 : (Jvm.Cond.fieldLink "FacesOfLines" (12 : Nat) "FacesOfLines" "lines" "LFacesOfLines$Lines;") ∈ tbG := tbG_of (in_t2 (List.mem_of_getElem? (i := 101) (by decide +kernel))) rfl
theorem q_342 : (Jvm.Cond.fieldLink "FacesOfLines" (16 : Nat) "FacesOfLines" "imaged" "LFacesOfLines$Lines;") ∈ tbG := tbG_of (in_t2 (List.mem_of_getElem? (i := 102) (by decide +kernel))) rfl
theorem q_343 : (Jvm.Cond.fieldLink "FacesOfLines" (19 : Nat) "FacesOfLines" "thought" "LFacesOfLines$Lines;") ∈ tbG := tbG_of (in_t2 (List.mem_of_getElem? (i := 103) (by decide +kernel))) rfl
theorem q_344 : (Jvm.Cond.fieldLink "FacesOfLines" (25 : Nat) "FacesOfLines" "points" "LFacesOfLines$Points;") ∈ tbG := tbG_of (in_t2 (List.mem_of_getElem? (i := 104) (by decide +kernel))) rfl
theorem q_345 : (Jvm.Cond.fieldLink "FacesOfLines" (29 : Nat) "FacesOfLines" "thoughtPoints" "LFacesOfLines$Points;") ∈ tbG := tbG_of (in_t2 (List.mem_of_getElem? (i := 105) (by decide +kernel))) rfl
theorem q_346 : (Jvm.Cond.fieldLink "FacesOfLines" (35 : Nat) "FacesOfLines" "meeting" "LFacesOfLines$Meeting;") ∈ tbG := tbG_of (in_t2 (List.mem_of_getElem? (i := 106) (by decide +kernel))) rfl
theorem q_347 : (Jvm.Cond.fieldLink "FacesOfLines" (42 : Nat) "FacesOfLines" "standing" "LFacesOfLines$Standing;") ∈ tbG := tbG_of (in_t2 (List.mem_of_getElem? (i := 107) (by decide +kernel))) rfl
theorem q_348 : (Jvm.Cond.fieldLink "FacesOfLines" (49 : Nat) "FacesOfLines" "slabs" "LFacesOfLines$Slabs;") ∈ tbG := tbG_of (in_t2 (List.mem_of_getElem? (i := 108) (by decide +kernel))) rfl
theorem q_349 : (Jvm.Cond.fieldLink "FacesOfLines" (56 : Nat) "FacesOfLines" "stretches" "LFacesOfLines$Stretches;") ∈ tbG := tbG_of (in_t2 (List.mem_of_getElem? (i := 109) (by decide +kernel))) rfl
theorem q_350 : (Jvm.Cond.fieldLink "FacesOfLines" (63 : Nat) "FacesOfLines" "faces" "LFacesOfLines$Faces;") ∈ tbG := tbG_of (in_t2 (List.mem_of_getElem? (i := 110) (by decide +kernel))) rfl
theorem q_351 : (Jvm.Cond.fieldLink "FacesOfLines" (70 : Nat) "FacesOfLines" "hulls" "LFacesOfLines$Hulls;") ∈ tbG := tbG_of (in_t2 (List.mem_of_getElem? (i := 111) (by decide +kernel))) rfl
theorem q_352 : (Jvm.Cond.fieldLink "FacesOfLines" (77 : Nat) "FacesOfLines" "sheets" "LFacesOfLines$Sheets;") ∈ tbG := tbG_of (in_t2 (List.mem_of_getElem? (i := 112) (by decide +kernel))) rfl
theorem q_353 : (Jvm.Cond.fieldLink "FacesOfLines" (312 : Nat) "FacesOfLines" "hasImage" "Z") ∈ tbG := tbG_of (in_t2 (List.mem_of_getElem? (i := 113) (by decide +kernel))) rfl
theorem q_354 : (Jvm.Cond.fieldLink "FacesOfLines" (340 : Nat) "FacesOfLines" "knowsPoints" "Z") ∈ tbG := tbG_of (in_t2 (List.mem_of_getElem? (i := 114) (by decide +kernel))) rfl
theorem q_355 : (Jvm.Cond.fieldLink "FacesOfLines" (343 : Nat) "FacesOfLines" "knowsFaces" "Z") ∈ tbG := tbG_of (in_t2 (List.mem_of_getElem? (i := 115) (by decide +kernel))) rfl
theorem q_356 : (Jvm.Cond.fieldLink "FacesOfLines" (346 : Nat) "FacesOfLines" "knowsHulls" "Z") ∈ tbG := tbG_of (in_t2 (List.mem_of_getElem? (i := 116) (by decide +kernel))) rfl
theorem q_391 : (Jvm.Cond.instanceMethod ({ cls := "FacesOfLines", name := "line", desc := "(IIII)I" } : Jvm.MethodName)) ∈ tbG := tbG_of (in_t2 (List.mem_of_getElem? (i := 151) (by decide +kernel))) rfl
theorem q_392 : (Jvm.Cond.selects "FacesOfLines" ({ cls := "FacesOfLines", name := "line", desc := "(IIII)I" } : Jvm.MethodName) ({ cls := "FacesOfLines", name := "line", desc := "(IIII)I" } : Jvm.MethodName)) ∈ tbG := tbG_of (in_t2 (List.mem_of_getElem? (i := 152) (by decide +kernel))) rfl
theorem q_393 : (Jvm.Cond.code ({ cls := "FacesOfLines", name := "line", desc := "(IIII)I" } : Jvm.MethodName) prog_1_method_2_code (5 : Nat) (Option.some Jvm.ClassFile.FieldType.int)) ∈ tbG := tbG_of (in_t2 (List.mem_of_getElem? (i := 153) (by decide +kernel))) rfl
theorem q_394 : (Jvm.Cond.methodLink "FacesOfLines" (81 : Nat) ({ cls := "FacesOfLines", name := "canBeEnds", desc := "(IIII)Z" } : Jvm.MethodName)) ∈ tbG := tbG_of (in_t2 (List.mem_of_getElem? (i := 154) (by decide +kernel))) rfl
theorem q_395 : (Jvm.Cond.static ({ cls := "FacesOfLines", name := "canBeEnds", desc := "(IIII)Z" } : Jvm.MethodName)) ∈ tbG := tbG_of (in_t2 (List.mem_of_getElem? (i := 155) (by decide +kernel))) rfl
theorem q_396 : (Jvm.Cond.code ({ cls := "FacesOfLines", name := "canBeEnds", desc := "(IIII)Z" } : Jvm.MethodName) prog_1_method_30_code (4 : Nat) (Option.some Jvm.ClassFile.FieldType.boolean)) ∈ tbG := tbG_of (in_t2 (List.mem_of_getElem? (i := 156) (by decide +kernel))) rfl
theorem q_397 : (Jvm.Cond.methodLink "FacesOfLines" (282 : Nat) ({ cls := "FacesOfLines", name := "isCoordinate", desc := "(I)Z" } : Jvm.MethodName)) ∈ tbG := tbG_of (in_t2 (List.mem_of_getElem? (i := 157) (by decide +kernel))) rfl
theorem q_398 : (Jvm.Cond.static ({ cls := "FacesOfLines", name := "isCoordinate", desc := "(I)Z" } : Jvm.MethodName)) ∈ tbG := tbG_of (in_t2 (List.mem_of_getElem? (i := 158) (by decide +kernel))) rfl
theorem q_399 : (Jvm.Cond.code ({ cls := "FacesOfLines", name := "isCoordinate", desc := "(I)Z" } : Jvm.MethodName) prog_1_method_29_code (1 : Nat) (Option.some Jvm.ClassFile.FieldType.boolean)) ∈ tbG := tbG_of (in_t2 (List.mem_of_getElem? (i := 159) (by decide +kernel))) rfl
theorem q_400 : (Jvm.Cond.methodLink "FacesOfLines" (85 : Nat) ({ cls := "FacesOfLines$Lines", name := "isFull", desc := "()Z" } : Jvm.MethodName)) ∈ tbG := tbG_of (in_t2 (List.mem_of_getElem? (i := 160) (by decide +kernel))) rfl
theorem q_401 : (Jvm.Cond.instanceMethod ({ cls := "FacesOfLines$Lines", name := "isFull", desc := "()Z" } : Jvm.MethodName)) ∈ tbG := tbG_of (in_t2 (List.mem_of_getElem? (i := 161) (by decide +kernel))) rfl
theorem q_402 : (Jvm.Cond.selects "FacesOfLines$Lines" ({ cls := "FacesOfLines$Lines", name := "isFull", desc := "()Z" } : Jvm.MethodName) ({ cls := "FacesOfLines$Lines", name := "isFull", desc := "()Z" } : Jvm.MethodName)) ∈ tbG := tbG_of (in_t2 (List.mem_of_getElem? (i := 162) (by decide +kernel))) rfl
theorem q_403 : (Jvm.Cond.code ({ cls := "FacesOfLines$Lines", name := "isFull", desc := "()Z" } : Jvm.MethodName) prog_4_method_3_code (1 : Nat) (Option.some Jvm.ClassFile.FieldType.boolean)) ∈ tbG := tbG_of (in_t2 (List.mem_of_getElem? (i := 163) (by decide +kernel))) rfl
theorem q_404 : (Jvm.Cond.methodLink "FacesOfLines" (89 : Nat) ({ cls := "FacesOfLines", name := "forgetWhatFollows", desc := "()V" } : Jvm.MethodName)) ∈ tbG := tbG_of (in_t2 (List.mem_of_getElem? (i := 164) (by decide +kernel))) rfl
theorem q_406 : (Jvm.Cond.instanceMethod ({ cls := "FacesOfLines", name := "forgetWhatFollows", desc := "()V" } : Jvm.MethodName)) ∈ tbG := tbG_of (in_t2 (List.mem_of_getElem? (i := 166) (by decide +kernel))) rfl
theorem q_407 : (Jvm.Cond.code ({ cls := "FacesOfLines", name := "forgetWhatFollows", desc := "()V" } : Jvm.MethodName) prog_1_method_35_code (1 : Nat) (Option.none : Option Jvm.ClassFile.FieldType)) ∈ tbG := tbG_of (in_t2 (List.mem_of_getElem? (i := 167) (by decide +kernel))) rfl
theorem q_408 : (Jvm.Cond.methodLink "FacesOfLines" (92 : Nat) ({ cls := "FacesOfLines$Lines", name := "add", desc := "(IIII)I" } : Jvm.MethodName)) ∈ tbG := tbG_of (in_t2 (List.mem_of_getElem? (i := 168) (by decide +kernel))) rfl
theorem q_409 : (Jvm.Cond.instanceMethod ({ cls := "FacesOfLines$Lines", name := "add", desc := "(IIII)I" } : Jvm.MethodName)) ∈ tbG := tbG_of (in_t2 (List.mem_of_getElem? (i := 169) (by decide +kernel))) rfl
theorem q_410 : (Jvm.Cond.selects "FacesOfLines$Lines" ({ cls := "FacesOfLines$Lines", name := "add", desc := "(IIII)I" } : Jvm.MethodName) ({ cls := "FacesOfLines$Lines", name := "add", desc := "(IIII)I" } : Jvm.MethodName)) ∈ tbG := tbG_of (in_t2 (List.mem_of_getElem? (i := 170) (by decide +kernel))) rfl
theorem q_411 : (Jvm.Cond.code ({ cls := "FacesOfLines$Lines", name := "add", desc := "(IIII)I" } : Jvm.MethodName) prog_4_method_4_code (5 : Nat) (Option.some Jvm.ClassFile.FieldType.int)) ∈ tbG := tbG_of (in_t2 (List.mem_of_getElem? (i := 171) (by decide +kernel))) rfl
theorem q_412 : (Jvm.Cond.methodLink "FacesOfLines$Lines" (28 : Nat) ({ cls := "FacesOfLines$Lines", name := "isFull", desc := "()Z" } : Jvm.MethodName)) ∈ tbG := tbG_of (in_t2 (List.mem_of_getElem? (i := 172) (by decide +kernel))) rfl
theorem q_413 : (Jvm.Cond.methodLink "FacesOfLines$Lines" (32 : Nat) ({ cls := "FacesOfLines$Lines", name := "lay", desc := "(IIIII)V" } : Jvm.MethodName)) ∈ tbG := tbG_of (in_t2 (List.mem_of_getElem? (i := 173) (by decide +kernel))) rfl
theorem q_414 : (Jvm.Cond.instanceMethod ({ cls := "FacesOfLines$Lines", name := "lay", desc := "(IIIII)V" } : Jvm.MethodName)) ∈ tbG := tbG_of (in_t2 (List.mem_of_getElem? (i := 174) (by decide +kernel))) rfl
theorem q_415 : (Jvm.Cond.selects "FacesOfLines$Lines" ({ cls := "FacesOfLines$Lines", name := "lay", desc := "(IIIII)V" } : Jvm.MethodName) ({ cls := "FacesOfLines$Lines", name := "lay", desc := "(IIIII)V" } : Jvm.MethodName)) ∈ tbG := tbG_of (in_t2 (List.mem_of_getElem? (i := 175) (by decide +kernel))) rfl
theorem q_416 : (Jvm.Cond.code ({ cls := "FacesOfLines$Lines", name := "lay", desc := "(IIIII)V" } : Jvm.MethodName) prog_4_method_5_code (7 : Nat) (Option.none : Option Jvm.ClassFile.FieldType)) ∈ tbG := tbG_of (in_t2 (List.mem_of_getElem? (i := 176) (by decide +kernel))) rfl
theorem q_417 : (Jvm.Cond.methodLink "FacesOfLines$Lines" (36 : Nat) ({ cls := "FacesOfLines$Lines", name := "has", desc := "(I)Z" } : Jvm.MethodName)) ∈ tbG := tbG_of (in_t2 (List.mem_of_getElem? (i := 177) (by decide +kernel))) rfl
theorem q_418 : (Jvm.Cond.instanceMethod ({ cls := "FacesOfLines$Lines", name := "has", desc := "(I)Z" } : Jvm.MethodName)) ∈ tbG := tbG_of (in_t2 (List.mem_of_getElem? (i := 178) (by decide +kernel))) rfl
theorem q_419 : (Jvm.Cond.selects "FacesOfLines$Lines" ({ cls := "FacesOfLines$Lines", name := "has", desc := "(I)Z" } : Jvm.MethodName) ({ cls := "FacesOfLines$Lines", name := "has", desc := "(I)Z" } : Jvm.MethodName)) ∈ tbG := tbG_of (in_t2 (List.mem_of_getElem? (i := 179) (by decide +kernel))) rfl
theorem q_420 : (Jvm.Cond.code ({ cls := "FacesOfLines$Lines", name := "has", desc := "(I)Z" } : Jvm.MethodName) prog_4_method_2_code (2 : Nat) (Option.some Jvm.ClassFile.FieldType.boolean)) ∈ tbG := tbG_of (in_t2 (List.mem_of_getElem? (i := 180) (by decide +kernel))) rfl
theorem q_425 : (Jvm.Cond.methodLink "FacesOfLines" (96 : Nat) ({ cls := "FacesOfLines$Lines", name := "has", desc := "(I)Z" } : Jvm.MethodName)) ∈ tbG := tbG_of (in_t2 (List.mem_of_getElem? (i := 185) (by decide +kernel))) rfl
theorem q_426 : (Jvm.Cond.methodLink "FacesOfLines" (100 : Nat) ({ cls := "FacesOfLines$Lines", name := "remove", desc := "(I)V" } : Jvm.MethodName)) ∈ tbG := tbG_of (in_t2 (List.mem_of_getElem? (i := 186) (by decide +kernel))) rfl
theorem q_427 : (Jvm.Cond.instanceMethod ({ cls := "FacesOfLines$Lines", name := "remove", desc := "(I)V" } : Jvm.MethodName)) ∈ tbG := tbG_of (in_t2 (List.mem_of_getElem? (i := 187) (by decide +kernel))) rfl
theorem q_428 : (Jvm.Cond.selects "FacesOfLines$Lines" ({ cls := "FacesOfLines$Lines", name := "remove", desc := "(I)V" } : Jvm.MethodName) ({ cls := "FacesOfLines$Lines", name := "remove", desc := "(I)V" } : Jvm.MethodName)) ∈ tbG := tbG_of (in_t2 (List.mem_of_getElem? (i := 188) (by decide +kernel))) rfl
theorem q_429 : (Jvm.Cond.code ({ cls := "FacesOfLines$Lines", name := "remove", desc := "(I)V" } : Jvm.MethodName) prog_4_method_6_code (3 : Nat) (Option.none : Option Jvm.ClassFile.FieldType)) ∈ tbG := tbG_of (in_t2 (List.mem_of_getElem? (i := 189) (by decide +kernel))) rfl
theorem q_434 : (Jvm.Cond.methodLink "FacesOfLines" (121 : Nat) ({ cls := "FacesOfLines$Lines", name := "lay", desc := "(IIIII)V" } : Jvm.MethodName)) ∈ tbG := tbG_of (in_t2 (List.mem_of_getElem? (i := 194) (by decide +kernel))) rfl
theorem q_439 : (Jvm.Cond.methodLink "FacesOfLines" (125 : Nat) ({ cls := "FacesOfLines$Lines", name := "isUpright", desc := "(I)Z" } : Jvm.MethodName)) ∈ tbG := tbG_of (in_t2 (List.mem_of_getElem? (i := 199) (by decide +kernel))) rfl
theorem q_440 : (Jvm.Cond.instanceMethod ({ cls := "FacesOfLines$Lines", name := "isUpright", desc := "(I)Z" } : Jvm.MethodName)) ∈ tbG := tbG_of (in_t2 (List.mem_of_getElem? (i := 200) (by decide +kernel))) rfl
theorem q_441 : (Jvm.Cond.selects "FacesOfLines$Lines" ({ cls := "FacesOfLines$Lines", name := "isUpright", desc := "(I)Z" } : Jvm.MethodName) ({ cls := "FacesOfLines$Lines", name := "isUpright", desc := "(I)Z" } : Jvm.MethodName)) ∈ tbG := tbG_of (in_t2 (List.mem_of_getElem? (i := 201) (by decide +kernel))) rfl
theorem q_442 : (Jvm.Cond.code ({ cls := "FacesOfLines$Lines", name := "isUpright", desc := "(I)Z" } : Jvm.MethodName) prog_4_method_8_code (2 : Nat) (Option.some Jvm.ClassFile.FieldType.boolean)) ∈ tbG := tbG_of (in_t2 (List.mem_of_getElem? (i := 202) (by decide +kernel))) rfl
theorem q_443 : (Jvm.Cond.methodLink "FacesOfLines" (128 : Nat) ({ cls := "FacesOfLines", name := "knowPoints", desc := "()V" } : Jvm.MethodName)) ∈ tbG := tbG_of (in_t2 (List.mem_of_getElem? (i := 203) (by decide +kernel))) rfl
theorem q_445 : (Jvm.Cond.instanceMethod ({ cls := "FacesOfLines", name := "knowPoints", desc := "()V" } : Jvm.MethodName)) ∈ tbG := tbG_of (in_t2 (List.mem_of_getElem? (i := 205) (by decide +kernel))) rfl
theorem q_446 : (Jvm.Cond.code ({ cls := "FacesOfLines", name := "knowPoints", desc := "()V" } : Jvm.MethodName) prog_1_method_36_code (1 : Nat) (Option.none : Option Jvm.ClassFile.FieldType)) ∈ tbG := tbG_of (in_t2 (List.mem_of_getElem? (i := 206) (by decide +kernel))) rfl
theorem q_447 : (Jvm.Cond.methodLink "FacesOfLines" (349 : Nat) ({ cls := "FacesOfLines$Points", name := "find", desc := "(LFacesOfLines$Lines;)V" } : Jvm.MethodName)) ∈ tbG := tbG_of (in_t2 (List.mem_of_getElem? (i := 207) (by decide +kernel))) rfl
theorem q_448 : (Jvm.Cond.instanceMethod ({ cls := "FacesOfLines$Points", name := "find", desc := "(LFacesOfLines$Lines;)V" } : Jvm.MethodName)) ∈ tbG := tbG_of (in_t2 (List.mem_of_getElem? (i := 208) (by decide +kernel))) rfl
theorem q_449 : (Jvm.Cond.selects "FacesOfLines$Points" ({ cls := "FacesOfLines$Points", name := "find", desc := "(LFacesOfLines$Lines;)V" } : Jvm.MethodName) ({ cls := "FacesOfLines$Points", name := "find", desc := "(LFacesOfLines$Lines;)V" } : Jvm.MethodName)) ∈ tbG := tbG_of (in_t2 (List.mem_of_getElem? (i := 209) (by decide +kernel))) rfl
theorem q_450 : (Jvm.Cond.code ({ cls := "FacesOfLines$Points", name := "find", desc := "(LFacesOfLines$Lines;)V" } : Jvm.MethodName) prog_6_method_2_code (3 : Nat) (Option.none : Option Jvm.ClassFile.FieldType)) ∈ tbG := tbG_of (in_t2 (List.mem_of_getElem? (i := 210) (by decide +kernel))) rfl
theorem q_451 : (Jvm.Cond.methodLink "FacesOfLines$Points" (54 : Nat) ({ cls := "FacesOfLines$Points", name := "add", desc := "(JJJJ)V" } : Jvm.MethodName)) ∈ tbG := tbG_of (in_t2 (List.mem_of_getElem? (i := 211) (by decide +kernel))) rfl
theorem q_453 : (Jvm.Cond.instanceMethod ({ cls := "FacesOfLines$Points", name := "add", desc := "(JJJJ)V" } : Jvm.MethodName)) ∈ tbG := tbG_of (in_t2 (List.mem_of_getElem? (i := 213) (by decide +kernel))) rfl
theorem q_454 : (Jvm.Cond.code ({ cls := "FacesOfLines$Points", name := "add", desc := "(JJJJ)V" } : Jvm.MethodName) prog_6_method_4_code (12 : Nat) (Option.none : Option Jvm.ClassFile.FieldType)) ∈ tbG := tbG_of (in_t2 (List.mem_of_getElem? (i := 214) (by decide +kernel))) rfl
theorem q_455 : (Jvm.Cond.methodLink "FacesOfLines$Points" (98 : Nat) ({ cls := "FacesOfLines$Points", name := "compareTo", desc := "(IJJJJ)I" } : Jvm.MethodName)) ∈ tbG := tbG_of (in_t2 (List.mem_of_getElem? (i := 215) (by decide +kernel))) rfl
theorem q_457 : (Jvm.Cond.instanceMethod ({ cls := "FacesOfLines$Points", name := "compareTo", desc := "(IJJJJ)I" } : Jvm.MethodName)) ∈ tbG := tbG_of (in_t2 (List.mem_of_getElem? (i := 217) (by decide +kernel))) rfl
theorem q_458 : (Jvm.Cond.code ({ cls := "FacesOfLines$Points", name := "compareTo", desc := "(IJJJJ)I" } : Jvm.MethodName) prog_6_method_5_code (11 : Nat) (Option.some Jvm.ClassFile.FieldType.int)) ∈ tbG := tbG_of (in_t2 (List.mem_of_getElem? (i := 218) (by decide +kernel))) rfl
theorem q_459 : (Jvm.Cond.methodLinkNest "FacesOfLines$Points" (102 : Nat) ({ cls := "FacesOfLines", name := "compareFractions", desc := "(JJJJ)I" } : Jvm.MethodName) "FacesOfLines") ∈ tbG := tbG_of (in_t2 (List.mem_of_getElem? (i := 219) (by decide +kernel))) rfl
theorem q_460 : (Jvm.Cond.static ({ cls := "FacesOfLines", name := "compareFractions", desc := "(JJJJ)I" } : Jvm.MethodName)) ∈ tbG := tbG_of (in_t2 (List.mem_of_getElem? (i := 220) (by decide +kernel))) rfl
theorem q_461 : (Jvm.Cond.code ({ cls := "FacesOfLines", name := "compareFractions", desc := "(JJJJ)I" } : Jvm.MethodName) prog_1_method_32_code (12 : Nat) (Option.some Jvm.ClassFile.FieldType.int)) ∈ tbG := tbG_of (in_t2 (List.mem_of_getElem? (i := 221) (by decide +kernel))) rfl
theorem q_462 : (Jvm.Cond.methodLink "FacesOfLines$Points" (64 : Nat) ({ cls := "FacesOfLines$Points", name := "addMeetings", desc := "(LFacesOfLines$Lines;)V" } : Jvm.MethodName)) ∈ tbG := tbG_of (in_t2 (List.mem_of_getElem? (i := 222) (by decide +kernel))) rfl
theorem q_464 : (Jvm.Cond.instanceMethod ({ cls := "FacesOfLines$Points", name := "addMeetings", desc := "(LFacesOfLines$Lines;)V" } : Jvm.MethodName)) ∈ tbG := tbG_of (in_t2 (List.mem_of_getElem? (i := 224) (by decide +kernel))) rfl
theorem q_465 : (Jvm.Cond.code ({ cls := "FacesOfLines$Points", name := "addMeetings", desc := "(LFacesOfLines$Lines;)V" } : Jvm.MethodName) prog_6_method_3_code (4 : Nat) (Option.none : Option Jvm.ClassFile.FieldType)) ∈ tbG := tbG_of (in_t2 (List.mem_of_getElem? (i := 225) (by decide +kernel))) rfl
theorem q_466 : (Jvm.Cond.methodLink "FacesOfLines$Points" (82 : Nat) ({ cls := "FacesOfLines$Meeting", name := "find", desc := "(LFacesOfLines$Lines;II)V" } : Jvm.MethodName)) ∈ tbG := tbG_of (in_t2 (List.mem_of_getElem? (i := 226) (by decide +kernel))) rfl
theorem q_467 : (Jvm.Cond.instanceMethod ({ cls := "FacesOfLines$Meeting", name := "find", desc := "(LFacesOfLines$Lines;II)V" } : Jvm.MethodName)) ∈ tbG := tbG_of (in_t2 (List.mem_of_getElem? (i := 227) (by decide +kernel))) rfl
theorem q_468 : (Jvm.Cond.selects "FacesOfLines$Meeting" ({ cls := "FacesOfLines$Meeting", name := "find", desc := "(LFacesOfLines$Lines;II)V" } : Jvm.MethodName) ({ cls := "FacesOfLines$Meeting", name := "find", desc := "(LFacesOfLines$Lines;II)V" } : Jvm.MethodName)) ∈ tbG := tbG_of (in_t2 (List.mem_of_getElem? (i := 228) (by decide +kernel))) rfl
theorem q_469 : (Jvm.Cond.code ({ cls := "FacesOfLines$Meeting", name := "find", desc := "(LFacesOfLines$Lines;II)V" } : Jvm.MethodName) prog_5_method_3_code (26 : Nat) (Option.none : Option Jvm.ClassFile.FieldType)) ∈ tbG := tbG_of (in_t2 (List.mem_of_getElem? (i := 229) (by decide +kernel))) rfl
theorem q_470 : (Jvm.Cond.methodLink "FacesOfLines$Meeting" (15 : Nat) ({ cls := "FacesOfLines$Lines", name := "run", desc := "(I)J" } : Jvm.MethodName)) ∈ tbG := tbG_of (in_t2 (List.mem_of_getElem? (i := 230) (by decide +kernel))) rfl
theorem q_471 : (Jvm.Cond.instanceMethod ({ cls := "FacesOfLines$Lines", name := "run", desc := "(I)J" } : Jvm.MethodName)) ∈ tbG := tbG_of (in_t2 (List.mem_of_getElem? (i := 231) (by decide +kernel))) rfl
theorem q_472 : (Jvm.Cond.selects "FacesOfLines$Lines" ({ cls := "FacesOfLines$Lines", name := "run", desc := "(I)J" } : Jvm.MethodName) ({ cls := "FacesOfLines$Lines", name := "run", desc := "(I)J" } : Jvm.MethodName)) ∈ tbG := tbG_of (in_t2 (List.mem_of_getElem? (i := 232) (by decide +kernel))) rfl
theorem q_473 : (Jvm.Cond.code ({ cls := "FacesOfLines$Lines", name := "run", desc := "(I)J" } : Jvm.MethodName) prog_4_method_9_code (2 : Nat) (Option.some Jvm.ClassFile.FieldType.long)) ∈ tbG := tbG_of (in_t2 (List.mem_of_getElem? (i := 233) (by decide +kernel))) rfl
theorem q_474 : (Jvm.Cond.methodLink "FacesOfLines$Meeting" (21 : Nat) ({ cls := "FacesOfLines$Lines", name := "rise", desc := "(I)J" } : Jvm.MethodName)) ∈ tbG := tbG_of (in_t2 (List.mem_of_getElem? (i := 234) (by decide +kernel))) rfl
theorem q_475 : (Jvm.Cond.instanceMethod ({ cls := "FacesOfLines$Lines", name := "rise", desc := "(I)J" } : Jvm.MethodName)) ∈ tbG := tbG_of (in_t2 (List.mem_of_getElem? (i := 235) (by decide +kernel))) rfl
theorem q_476 : (Jvm.Cond.selects "FacesOfLines$Lines" ({ cls := "FacesOfLines$Lines", name := "rise", desc := "(I)J" } : Jvm.MethodName) ({ cls := "FacesOfLines$Lines", name := "rise", desc := "(I)J" } : Jvm.MethodName)) ∈ tbG := tbG_of (in_t2 (List.mem_of_getElem? (i := 236) (by decide +kernel))) rfl
theorem q_477 : (Jvm.Cond.code ({ cls := "FacesOfLines$Lines", name := "rise", desc := "(I)J" } : Jvm.MethodName) prog_4_method_10_code (2 : Nat) (Option.some Jvm.ClassFile.FieldType.long)) ∈ tbG := tbG_of (in_t2 (List.mem_of_getElem? (i := 237) (by decide +kernel))) rfl
theorem q_478 : (Jvm.Cond.methodLink "FacesOfLines$Meeting" (31 : Nat) ({ cls := "FacesOfLines$Meeting", name := "findInOneRow", desc := "(LFacesOfLines$Lines;II)V" } : Jvm.MethodName)) ∈ tbG := tbG_of (in_t2 (List.mem_of_getElem? (i := 238) (by decide +kernel))) rfl
theorem q_480 : (Jvm.Cond.instanceMethod ({ cls := "FacesOfLines$Meeting", name := "findInOneRow", desc := "(LFacesOfLines$Lines;II)V" } : Jvm.MethodName)) ∈ tbG := tbG_of (in_t3 (List.mem_of_getElem? (i := 0) (by decide +kernel))) rfl
theorem q_481 : (Jvm.Cond.code ({ cls := "FacesOfLines$Meeting", name := "findInOneRow", desc := "(LFacesOfLines$Lines;II)V" } : Jvm.MethodName) prog_5_method_4_code (8 : Nat) (Option.none : Option Jvm.ClassFile.FieldType)) ∈ tbG := tbG_of (in_t3 (List.mem_of_getElem? (i := 1) (by decide +kernel))) rfl
theorem q_482 : (Jvm.Cond.methodLink "FacesOfLines$Meeting" (39 : Nat) ({ cls := "FacesOfLines$Meeting", name := "isAhead", desc := "(IIII)Z" } : Jvm.MethodName)) ∈ tbG := tbG_of (in_t3 (List.mem_of_getElem? (i := 2) (by decide +kernel))) rfl
theorem q_483 : (Jvm.Cond.static ({ cls := "FacesOfLines$Meeting", name := "isAhead", desc := "(IIII)Z" } : Jvm.MethodName)) ∈ tbG := tbG_of (in_t3 (List.mem_of_getElem? (i := 3) (by decide +kernel))) rfl
theorem q_484 : (Jvm.Cond.code ({ cls := "FacesOfLines$Meeting", name := "isAhead", desc := "(IIII)Z" } : Jvm.MethodName) prog_5_method_5_code (4 : Nat) (Option.some Jvm.ClassFile.FieldType.boolean)) ∈ tbG := tbG_of (in_t3 (List.mem_of_getElem? (i := 4) (by decide +kernel))) rfl
theorem q_485 : (Jvm.Cond.methodLink "FacesOfLines$Meeting" (35 : Nat) ({ cls := "FacesOfLines$Meeting", name := "layAt", desc := "(JJJ)V" } : Jvm.MethodName)) ∈ tbG := tbG_of (in_t3 (List.mem_of_getElem? (i := 5) (by decide +kernel))) rfl
theorem q_487 : (Jvm.Cond.instanceMethod ({ cls := "FacesOfLines$Meeting", name := "layAt", desc := "(JJJ)V" } : Jvm.MethodName)) ∈ tbG := tbG_of (in_t3 (List.mem_of_getElem? (i := 7) (by decide +kernel))) rfl
theorem q_488 : (Jvm.Cond.code ({ cls := "FacesOfLines$Meeting", name := "layAt", desc := "(JJJ)V" } : Jvm.MethodName) prog_5_method_6_code (11 : Nat) (Option.none : Option Jvm.ClassFile.FieldType)) ∈ tbG := tbG_of (in_t3 (List.mem_of_getElem? (i := 8) (by decide +kernel))) rfl
theorem q_489 : (Jvm.Cond.methodLinkNest "FacesOfLines$Meeting" (62 : Nat) ({ cls := "FacesOfLines", name := "commonDivisor", desc := "(JJ)J" } : Jvm.MethodName) "FacesOfLines") ∈ tbG := tbG_of (in_t3 (List.mem_of_getElem? (i := 9) (by decide +kernel))) rfl
theorem q_490 : (Jvm.Cond.static ({ cls := "FacesOfLines", name := "commonDivisor", desc := "(JJ)J" } : Jvm.MethodName)) ∈ tbG := tbG_of (in_t3 (List.mem_of_getElem? (i := 10) (by decide +kernel))) rfl
theorem q_491 : (Jvm.Cond.code ({ cls := "FacesOfLines", name := "commonDivisor", desc := "(JJ)J" } : Jvm.MethodName) prog_1_method_33_code (11 : Nat) (Option.some Jvm.ClassFile.FieldType.long)) ∈ tbG := tbG_of (in_t3 (List.mem_of_getElem? (i := 11) (by decide +kernel))) rfl
theorem q_492 : (Jvm.Cond.methodLink "FacesOfLines$Points" (68 : Nat) ({ cls := "FacesOfLines$Points", name := "linesThrough", desc := "(LFacesOfLines$Lines;I)I" } : Jvm.MethodName)) ∈ tbG := tbG_of (in_t3 (List.mem_of_getElem? (i := 12) (by decide +kernel))) rfl
theorem q_494 : (Jvm.Cond.instanceMethod ({ cls := "FacesOfLines$Points", name := "linesThrough", desc := "(LFacesOfLines$Lines;I)I" } : Jvm.MethodName)) ∈ tbG := tbG_of (in_t3 (List.mem_of_getElem? (i := 14) (by decide +kernel))) rfl
theorem q_495 : (Jvm.Cond.code ({ cls := "FacesOfLines$Points", name := "linesThrough", desc := "(LFacesOfLines$Lines;I)I" } : Jvm.MethodName) prog_6_method_6_code (5 : Nat) (Option.some Jvm.ClassFile.FieldType.int)) ∈ tbG := tbG_of (in_t3 (List.mem_of_getElem? (i := 15) (by decide +kernel))) rfl
theorem q_496 : (Jvm.Cond.methodLink "FacesOfLines$Points" (106 : Nat) ({ cls := "FacesOfLines$Lines", name := "holds", desc := "(IJJJJ)Z" } : Jvm.MethodName)) ∈ tbG := tbG_of (in_t3 (List.mem_of_getElem? (i := 16) (by decide +kernel))) rfl
theorem q_497 : (Jvm.Cond.instanceMethod ({ cls := "FacesOfLines$Lines", name := "holds", desc := "(IJJJJ)Z" } : Jvm.MethodName)) ∈ tbG := tbG_of (in_t3 (List.mem_of_getElem? (i := 17) (by decide +kernel))) rfl
theorem q_498 : (Jvm.Cond.selects "FacesOfLines$Lines" ({ cls := "FacesOfLines$Lines", name := "holds", desc := "(IJJJJ)Z" } : Jvm.MethodName) ({ cls := "FacesOfLines$Lines", name := "holds", desc := "(IJJJJ)Z" } : Jvm.MethodName)) ∈ tbG := tbG_of (in_t3 (List.mem_of_getElem? (i := 18) (by decide +kernel))) rfl
theorem q_499 : (Jvm.Cond.code ({ cls := "FacesOfLines$Lines", name := "holds", desc := "(IJJJJ)Z" } : Jvm.MethodName) prog_4_method_13_code (10 : Nat) (Option.some Jvm.ClassFile.FieldType.boolean)) ∈ tbG := tbG_of (in_t3 (List.mem_of_getElem? (i := 19) (by decide +kernel))) rfl
theorem q_500 : (Jvm.Cond.methodLink "FacesOfLines$Lines" (40 : Nat) ({ cls := "FacesOfLines$Lines", name := "reaches", desc := "(IJJ)Z" } : Jvm.MethodName)) ∈ tbG := tbG_of (in_t3 (List.mem_of_getElem? (i := 20) (by decide +kernel))) rfl
theorem q_501 : (Jvm.Cond.instanceMethod ({ cls := "FacesOfLines$Lines", name := "reaches", desc := "(IJJ)Z" } : Jvm.MethodName)) ∈ tbG := tbG_of (in_t3 (List.mem_of_getElem? (i := 21) (by decide +kernel))) rfl
theorem q_502 : (Jvm.Cond.selects "FacesOfLines$Lines" ({ cls := "FacesOfLines$Lines", name := "reaches", desc := "(IJJ)Z" } : Jvm.MethodName) ({ cls := "FacesOfLines$Lines", name := "reaches", desc := "(IJJ)Z" } : Jvm.MethodName)) ∈ tbG := tbG_of (in_t3 (List.mem_of_getElem? (i := 22) (by decide +kernel))) rfl
theorem q_503 : (Jvm.Cond.code ({ cls := "FacesOfLines$Lines", name := "reaches", desc := "(IJJ)Z" } : Jvm.MethodName) prog_4_method_11_code (6 : Nat) (Option.some Jvm.ClassFile.FieldType.boolean)) ∈ tbG := tbG_of (in_t3 (List.mem_of_getElem? (i := 23) (by decide +kernel))) rfl
theorem q_504 : (Jvm.Cond.methodLink "FacesOfLines$Lines" (44 : Nat) ({ cls := "java/lang/Math", name := "min", desc := "(II)I" } : Jvm.MethodName)) ∈ tbG := tbG_of (in_t3 (List.mem_of_getElem? (i := 24) (by decide +kernel))) rfl
theorem q_505 : (Jvm.Cond.static ({ cls := "java/lang/Math", name := "min", desc := "(II)I" } : Jvm.MethodName)) ∈ tbG := tbG_of (in_t3 (List.mem_of_getElem? (i := 25) (by decide +kernel))) rfl
theorem q_506 : (Jvm.Cond.code ({ cls := "java/lang/Math", name := "min", desc := "(II)I" } : Jvm.MethodName) prog_15_method_69_code (2 : Nat) (Option.some Jvm.ClassFile.FieldType.int)) ∈ tbG := tbG_of (in_t3 (List.mem_of_getElem? (i := 26) (by decide +kernel))) rfl
theorem q_507 : (Jvm.Cond.methodLink "FacesOfLines$Lines" (50 : Nat) ({ cls := "java/lang/Math", name := "max", desc := "(II)I" } : Jvm.MethodName)) ∈ tbG := tbG_of (in_t3 (List.mem_of_getElem? (i := 27) (by decide +kernel))) rfl
theorem q_508 : (Jvm.Cond.static ({ cls := "java/lang/Math", name := "max", desc := "(II)I" } : Jvm.MethodName)) ∈ tbG := tbG_of (in_t3 (List.mem_of_getElem? (i := 28) (by decide +kernel))) rfl
theorem q_509 : (Jvm.Cond.code ({ cls := "java/lang/Math", name := "max", desc := "(II)I" } : Jvm.MethodName) prog_15_method_65_code (2 : Nat) (Option.some Jvm.ClassFile.FieldType.int)) ∈ tbG := tbG_of (in_t3 (List.mem_of_getElem? (i := 29) (by decide +kernel))) rfl
theorem q_510 : (Jvm.Cond.methodLink "FacesOfLines$Lines" (53 : Nat) ({ cls := "FacesOfLines$Lines", name := "rise", desc := "(I)J" } : Jvm.MethodName)) ∈ tbG := tbG_of (in_t3 (List.mem_of_getElem? (i := 30) (by decide +kernel))) rfl
theorem q_511 : (Jvm.Cond.methodLink "FacesOfLines$Lines" (57 : Nat) ({ cls := "FacesOfLines$Lines", name := "run", desc := "(I)J" } : Jvm.MethodName)) ∈ tbG := tbG_of (in_t3 (List.mem_of_getElem? (i := 31) (by decide +kernel))) rfl
theorem q_512 : (Jvm.Cond.methodLink "FacesOfLines$Points" (75 : Nat) ({ cls := "FacesOfLines$Points", name := "walkAlong", desc := "(I)V" } : Jvm.MethodName)) ∈ tbG := tbG_of (in_t3 (List.mem_of_getElem? (i := 32) (by decide +kernel))) rfl
theorem q_514 : (Jvm.Cond.instanceMethod ({ cls := "FacesOfLines$Points", name := "walkAlong", desc := "(I)V" } : Jvm.MethodName)) ∈ tbG := tbG_of (in_t3 (List.mem_of_getElem? (i := 34) (by decide +kernel))) rfl
theorem q_515 : (Jvm.Cond.code ({ cls := "FacesOfLines$Points", name := "walkAlong", desc := "(I)V" } : Jvm.MethodName) prog_6_method_7_code (4 : Nat) (Option.none : Option Jvm.ClassFile.FieldType)) ∈ tbG := tbG_of (in_t3 (List.mem_of_getElem? (i := 35) (by decide +kernel))) rfl
theorem q_516 : (Jvm.Cond.methodLinkNest "FacesOfLines$Points" (110 : Nat) ({ cls := "FacesOfLines", name := "leastOf", desc := "(I)I" } : Jvm.MethodName) "FacesOfLines") ∈ tbG := tbG_of (in_t3 (List.mem_of_getElem? (i := 36) (by decide +kernel))) rfl
theorem q_517 : (Jvm.Cond.static ({ cls := "FacesOfLines", name := "leastOf", desc := "(I)I" } : Jvm.MethodName)) ∈ tbG := tbG_of (in_t3 (List.mem_of_getElem? (i := 37) (by decide +kernel))) rfl
theorem q_518 : (Jvm.Cond.code ({ cls := "FacesOfLines", name := "leastOf", desc := "(I)I" } : Jvm.MethodName) prog_1_method_34_code (2 : Nat) (Option.some Jvm.ClassFile.FieldType.int)) ∈ tbG := tbG_of (in_t3 (List.mem_of_getElem? (i := 38) (by decide +kernel))) rfl
theorem q_519 : (Jvm.Cond.methodLink "FacesOfLines$Points" (114 : Nat) ({ cls := "FacesOfLines$Points", name := "unite", desc := "(II)V" } : Jvm.MethodName)) ∈ tbG := tbG_of (in_t3 (List.mem_of_getElem? (i := 39) (by decide +kernel))) rfl
theorem q_521 : (Jvm.Cond.instanceMethod ({ cls := "FacesOfLines$Points", name := "unite", desc := "(II)V" } : Jvm.MethodName)) ∈ tbG := tbG_of (in_t3 (List.mem_of_getElem? (i := 41) (by decide +kernel))) rfl
theorem q_522 : (Jvm.Cond.code ({ cls := "FacesOfLines$Points", name := "unite", desc := "(II)V" } : Jvm.MethodName) prog_6_method_8_code (5 : Nat) (Option.none : Option Jvm.ClassFile.FieldType)) ∈ tbG := tbG_of (in_t3 (List.mem_of_getElem? (i := 42) (by decide +kernel))) rfl
theorem q_523 : (Jvm.Cond.methodLink "FacesOfLines$Points" (118 : Nat) ({ cls := "FacesOfLines$Points", name := "rootOf", desc := "(I)I" } : Jvm.MethodName)) ∈ tbG := tbG_of (in_t3 (List.mem_of_getElem? (i := 43) (by decide +kernel))) rfl
theorem q_525 : (Jvm.Cond.instanceMethod ({ cls := "FacesOfLines$Points", name := "rootOf", desc := "(I)I" } : Jvm.MethodName)) ∈ tbG := tbG_of (in_t3 (List.mem_of_getElem? (i := 45) (by decide +kernel))) rfl
theorem q_526 : (Jvm.Cond.code ({ cls := "FacesOfLines$Points", name := "rootOf", desc := "(I)I" } : Jvm.MethodName) prog_6_method_9_code (4 : Nat) (Option.some Jvm.ClassFile.FieldType.int)) ∈ tbG := tbG_of (in_t3 (List.mem_of_getElem? (i := 46) (by decide +kernel))) rfl
theorem q_527 : (Jvm.Cond.methodLink "FacesOfLines$Points" (121 : Nat) ({ cls := "java/lang/Math", name := "max", desc := "(II)I" } : Jvm.MethodName)) ∈ tbG := tbG_of (in_t3 (List.mem_of_getElem? (i := 47) (by decide +kernel))) rfl
theorem q_528 : (Jvm.Cond.methodLink "FacesOfLines$Points" (127 : Nat) ({ cls := "java/lang/Math", name := "min", desc := "(II)I" } : Jvm.MethodName)) ∈ tbG := tbG_of (in_t3 (List.mem_of_getElem? (i := 48) (by decide +kernel))) rfl
theorem q_529 : (Jvm.Cond.methodLink "FacesOfLines$Points" (79 : Nat) ({ cls := "FacesOfLines$Points", name := "countParts", desc := "()V" } : Jvm.MethodName)) ∈ tbG := tbG_of (in_t3 (List.mem_of_getElem? (i := 49) (by decide +kernel))) rfl
theorem q_531 : (Jvm.Cond.instanceMethod ({ cls := "FacesOfLines$Points", name := "countParts", desc := "()V" } : Jvm.MethodName)) ∈ tbG := tbG_of (in_t3 (List.mem_of_getElem? (i := 51) (by decide +kernel))) rfl
theorem q_532 : (Jvm.Cond.code ({ cls := "FacesOfLines$Points", name := "countParts", desc := "()V" } : Jvm.MethodName) prog_6_method_10_code (2 : Nat) (Option.none : Option Jvm.ClassFile.FieldType)) ∈ tbG := tbG_of (in_t3 (List.mem_of_getElem? (i := 52) (by decide +kernel))) rfl
theorem q_533 : (Jvm.Cond.methodLink "FacesOfLines" (131 : Nat) ({ cls := "FacesOfLines$Points", name := "countOn", desc := "(I)I" } : Jvm.MethodName)) ∈ tbG := tbG_of (in_t3 (List.mem_of_getElem? (i := 53) (by decide +kernel))) rfl
theorem q_534 : (Jvm.Cond.instanceMethod ({ cls := "FacesOfLines$Points", name := "countOn", desc := "(I)I" } : Jvm.MethodName)) ∈ tbG := tbG_of (in_t3 (List.mem_of_getElem? (i := 54) (by decide +kernel))) rfl
theorem q_535 : (Jvm.Cond.selects "FacesOfLines$Points" ({ cls := "FacesOfLines$Points", name := "countOn", desc := "(I)I" } : Jvm.MethodName) ({ cls := "FacesOfLines$Points", name := "countOn", desc := "(I)I" } : Jvm.MethodName)) ∈ tbG := tbG_of (in_t3 (List.mem_of_getElem? (i := 55) (by decide +kernel))) rfl
theorem q_536 : (Jvm.Cond.code ({ cls := "FacesOfLines$Points", name := "countOn", desc := "(I)I" } : Jvm.MethodName) prog_6_method_12_code (4 : Nat) (Option.some Jvm.ClassFile.FieldType.int)) ∈ tbG := tbG_of (in_t3 (List.mem_of_getElem? (i := 56) (by decide +kernel))) rfl
theorem q_537 : (Jvm.Cond.methodLink "FacesOfLines" (135 : Nat) ({ cls := "FacesOfLines", name := "knowHulls", desc := "()V" } : Jvm.MethodName)) ∈ tbG := tbG_of (in_t3 (List.mem_of_getElem? (i := 57) (by decide +kernel))) rfl
theorem q_539 : (Jvm.Cond.instanceMethod ({ cls := "FacesOfLines", name := "knowHulls", desc := "()V" } : Jvm.MethodName)) ∈ tbG := tbG_of (in_t3 (List.mem_of_getElem? (i := 59) (by decide +kernel))) rfl
theorem q_540 : (Jvm.Cond.code ({ cls := "FacesOfLines", name := "knowHulls", desc := "()V" } : Jvm.MethodName) prog_1_method_38_code (1 : Nat) (Option.none : Option Jvm.ClassFile.FieldType)) ∈ tbG := tbG_of (in_t3 (List.mem_of_getElem? (i := 60) (by decide +kernel))) rfl
theorem q_541 : (Jvm.Cond.methodLink "FacesOfLines" (362 : Nat) ({ cls := "FacesOfLines$Hulls", name := "peel", desc := "(LFacesOfLines$Lines;)V" } : Jvm.MethodName)) ∈ tbG := tbG_of (in_t3 (List.mem_of_getElem? (i := 61) (by decide +kernel))) rfl
theorem q_542 : (Jvm.Cond.instanceMethod ({ cls := "FacesOfLines$Hulls", name := "peel", desc := "(LFacesOfLines$Lines;)V" } : Jvm.MethodName)) ∈ tbG := tbG_of (in_t3 (List.mem_of_getElem? (i := 62) (by decide +kernel))) rfl
theorem q_543 : (Jvm.Cond.selects "FacesOfLines$Hulls" ({ cls := "FacesOfLines$Hulls", name := "peel", desc := "(LFacesOfLines$Lines;)V" } : Jvm.MethodName) ({ cls := "FacesOfLines$Hulls", name := "peel", desc := "(LFacesOfLines$Lines;)V" } : Jvm.MethodName)) ∈ tbG := tbG_of (in_t3 (List.mem_of_getElem? (i := 63) (by decide +kernel))) rfl
theorem q_544 : (Jvm.Cond.code ({ cls := "FacesOfLines$Hulls", name := "peel", desc := "(LFacesOfLines$Lines;)V" } : Jvm.MethodName) prog_3_method_2_code (4 : Nat) (Option.none : Option Jvm.ClassFile.FieldType)) ∈ tbG := tbG_of (in_t3 (List.mem_of_getElem? (i := 64) (by decide +kernel))) rfl
theorem q_545 : (Jvm.Cond.methodLink "FacesOfLines$Hulls" (36 : Nat) ({ cls := "FacesOfLines$Hulls", name := "add", desc := "(II)V" } : Jvm.MethodName)) ∈ tbG := tbG_of (in_t3 (List.mem_of_getElem? (i := 65) (by decide +kernel))) rfl
theorem q_547 : (Jvm.Cond.instanceMethod ({ cls := "FacesOfLines$Hulls", name := "add", desc := "(II)V" } : Jvm.MethodName)) ∈ tbG := tbG_of (in_t3 (List.mem_of_getElem? (i := 67) (by decide +kernel))) rfl
theorem q_548 : (Jvm.Cond.code ({ cls := "FacesOfLines$Hulls", name := "add", desc := "(II)V" } : Jvm.MethodName) prog_3_method_3_code (3 : Nat) (Option.none : Option Jvm.ClassFile.FieldType)) ∈ tbG := tbG_of (in_t3 (List.mem_of_getElem? (i := 68) (by decide +kernel))) rfl
theorem q_549 : (Jvm.Cond.methodLink "FacesOfLines$Hulls" (51 : Nat) ({ cls := "FacesOfLines$Hulls", name := "hullOf", desc := "(II)I" } : Jvm.MethodName)) ∈ tbG := tbG_of (in_t3 (List.mem_of_getElem? (i := 69) (by decide +kernel))) rfl
theorem q_550 : (Jvm.Cond.instanceMethod ({ cls := "FacesOfLines$Hulls", name := "hullOf", desc := "(II)I" } : Jvm.MethodName)) ∈ tbG := tbG_of (in_t3 (List.mem_of_getElem? (i := 70) (by decide +kernel))) rfl
theorem q_551 : (Jvm.Cond.selects "FacesOfLines$Hulls" ({ cls := "FacesOfLines$Hulls", name := "hullOf", desc := "(II)I" } : Jvm.MethodName) ({ cls := "FacesOfLines$Hulls", name := "hullOf", desc := "(II)I" } : Jvm.MethodName)) ∈ tbG := tbG_of (in_t3 (List.mem_of_getElem? (i := 71) (by decide +kernel))) rfl
theorem q_552 : (Jvm.Cond.code ({ cls := "FacesOfLines$Hulls", name := "hullOf", desc := "(II)I" } : Jvm.MethodName) prog_3_method_4_code (4 : Nat) (Option.some Jvm.ClassFile.FieldType.int)) ∈ tbG := tbG_of (in_t3 (List.mem_of_getElem? (i := 72) (by decide +kernel))) rfl
theorem q_553 : (Jvm.Cond.methodLink "FacesOfLines$Hulls" (47 : Nat) ({ cls := "FacesOfLines$Hulls", name := "peelOff", desc := "(I)I" } : Jvm.MethodName)) ∈ tbG := tbG_of (in_t3 (List.mem_of_getElem? (i := 73) (by decide +kernel))) rfl
theorem q_555 : (Jvm.Cond.instanceMethod ({ cls := "FacesOfLines$Hulls", name := "peelOff", desc := "(I)I" } : Jvm.MethodName)) ∈ tbG := tbG_of (in_t3 (List.mem_of_getElem? (i := 75) (by decide +kernel))) rfl
theorem q_556 : (Jvm.Cond.code ({ cls := "FacesOfLines$Hulls", name := "peelOff", desc := "(I)I" } : Jvm.MethodName) prog_3_method_5_code (4 : Nat) (Option.some Jvm.ClassFile.FieldType.int)) ∈ tbG := tbG_of (in_t3 (List.mem_of_getElem? (i := 76) (by decide +kernel))) rfl
theorem q_557 : (Jvm.Cond.methodLink "FacesOfLines$Hulls" (55 : Nat) ({ cls := "FacesOfLines$Hulls", name := "isOnBorder", desc := "(II)Z" } : Jvm.MethodName)) ∈ tbG := tbG_of (in_t3 (List.mem_of_getElem? (i := 77) (by decide +kernel))) rfl
theorem q_559 : (Jvm.Cond.instanceMethod ({ cls := "FacesOfLines$Hulls", name := "isOnBorder", desc := "(II)Z" } : Jvm.MethodName)) ∈ tbG := tbG_of (in_t3 (List.mem_of_getElem? (i := 79) (by decide +kernel))) rfl
theorem q_560 : (Jvm.Cond.code ({ cls := "FacesOfLines$Hulls", name := "isOnBorder", desc := "(II)Z" } : Jvm.MethodName) prog_3_method_7_code (5 : Nat) (Option.some Jvm.ClassFile.FieldType.boolean)) ∈ tbG := tbG_of (in_t3 (List.mem_of_getElem? (i := 80) (by decide +kernel))) rfl
theorem q_561 : (Jvm.Cond.methodLink "FacesOfLines$Hulls" (59 : Nat) ({ cls := "FacesOfLines$Hulls", name := "isLeft", desc := "(II)Z" } : Jvm.MethodName)) ∈ tbG := tbG_of (in_t3 (List.mem_of_getElem? (i := 81) (by decide +kernel))) rfl
theorem q_563 : (Jvm.Cond.instanceMethod ({ cls := "FacesOfLines$Hulls", name := "isLeft", desc := "(II)Z" } : Jvm.MethodName)) ∈ tbG := tbG_of (in_t3 (List.mem_of_getElem? (i := 83) (by decide +kernel))) rfl
theorem q_564 : (Jvm.Cond.code ({ cls := "FacesOfLines$Hulls", name := "isLeft", desc := "(II)Z" } : Jvm.MethodName) prog_3_method_6_code (3 : Nat) (Option.some Jvm.ClassFile.FieldType.boolean)) ∈ tbG := tbG_of (in_t3 (List.mem_of_getElem? (i := 84) (by decide +kernel))) rfl
theorem q_565 : (Jvm.Cond.methodLink "FacesOfLines$Hulls" (62 : Nat) ({ cls := "FacesOfLines$Hulls", name := "noneAtTheLeft", desc := "(III)Z" } : Jvm.MethodName)) ∈ tbG := tbG_of (in_t3 (List.mem_of_getElem? (i := 85) (by decide +kernel))) rfl
theorem q_567 : (Jvm.Cond.instanceMethod ({ cls := "FacesOfLines$Hulls", name := "noneAtTheLeft", desc := "(III)Z" } : Jvm.MethodName)) ∈ tbG := tbG_of (in_t3 (List.mem_of_getElem? (i := 87) (by decide +kernel))) rfl
theorem q_568 : (Jvm.Cond.code ({ cls := "FacesOfLines$Hulls", name := "noneAtTheLeft", desc := "(III)Z" } : Jvm.MethodName) prog_3_method_8_code (6 : Nat) (Option.some Jvm.ClassFile.FieldType.boolean)) ∈ tbG := tbG_of (in_t3 (List.mem_of_getElem? (i := 88) (by decide +kernel))) rfl
theorem q_569 : (Jvm.Cond.methodLink "FacesOfLines" (138 : Nat) ({ cls := "FacesOfLines$Hulls", name := "hullOf", desc := "(II)I" } : Jvm.MethodName)) ∈ tbG := tbG_of (in_t3 (List.mem_of_getElem? (i := 89) (by decide +kernel))) rfl
theorem q_574 : (Jvm.Cond.methodLink "FacesOfLines" (142 : Nat) ({ cls := "FacesOfLines$Lines", name := "rise", desc := "(I)J" } : Jvm.MethodName)) ∈ tbG := tbG_of (in_t3 (List.mem_of_getElem? (i := 94) (by decide +kernel))) rfl
theorem q_579 : (Jvm.Cond.methodLink "FacesOfLines" (146 : Nat) ({ cls := "FacesOfLines$Meeting", name := "find", desc := "(LFacesOfLines$Lines;II)V" } : Jvm.MethodName)) ∈ tbG := tbG_of (in_t3 (List.mem_of_getElem? (i := 99) (by decide +kernel))) rfl
theorem q_580 : (Jvm.Cond.methodLink "FacesOfLines" (153 : Nat) ({ cls := "FacesOfLines$Meeting", name := "isAtOnePlace", desc := "()Z" } : Jvm.MethodName)) ∈ tbG := tbG_of (in_t3 (List.mem_of_getElem? (i := 100) (by decide +kernel))) rfl
theorem q_581 : (Jvm.Cond.instanceMethod ({ cls := "FacesOfLines$Meeting", name := "isAtOnePlace", desc := "()Z" } : Jvm.MethodName)) ∈ tbG := tbG_of (in_t3 (List.mem_of_getElem? (i := 101) (by decide +kernel))) rfl
theorem q_582 : (Jvm.Cond.selects "FacesOfLines$Meeting" ({ cls := "FacesOfLines$Meeting", name := "isAtOnePlace", desc := "()Z" } : Jvm.MethodName) ({ cls := "FacesOfLines$Meeting", name := "isAtOnePlace", desc := "()Z" } : Jvm.MethodName)) ∈ tbG := tbG_of (in_t3 (List.mem_of_getElem? (i := 102) (by decide +kernel))) rfl
theorem q_583 : (Jvm.Cond.code ({ cls := "FacesOfLines$Meeting", name := "isAtOnePlace", desc := "()Z" } : Jvm.MethodName) prog_5_method_2_code (1 : Nat) (Option.some Jvm.ClassFile.FieldType.boolean)) ∈ tbG := tbG_of (in_t3 (List.mem_of_getElem? (i := 103) (by decide +kernel))) rfl
theorem q_588 : (Jvm.Cond.methodLink "FacesOfLines" (182 : Nat) ({ cls := "FacesOfLines$Points", name := "endsAt", desc := "(LFacesOfLines$Lines;I)I" } : Jvm.MethodName)) ∈ tbG := tbG_of (in_t3 (List.mem_of_getElem? (i := 108) (by decide +kernel))) rfl
theorem q_589 : (Jvm.Cond.instanceMethod ({ cls := "FacesOfLines$Points", name := "endsAt", desc := "(LFacesOfLines$Lines;I)I" } : Jvm.MethodName)) ∈ tbG := tbG_of (in_t3 (List.mem_of_getElem? (i := 109) (by decide +kernel))) rfl
theorem q_590 : (Jvm.Cond.selects "FacesOfLines$Points" ({ cls := "FacesOfLines$Points", name := "endsAt", desc := "(LFacesOfLines$Lines;I)I" } : Jvm.MethodName) ({ cls := "FacesOfLines$Points", name := "endsAt", desc := "(LFacesOfLines$Lines;I)I" } : Jvm.MethodName)) ∈ tbG := tbG_of (in_t3 (List.mem_of_getElem? (i := 110) (by decide +kernel))) rfl
theorem q_591 : (Jvm.Cond.code ({ cls := "FacesOfLines$Points", name := "endsAt", desc := "(LFacesOfLines$Lines;I)I" } : Jvm.MethodName) prog_6_method_13_code (5 : Nat) (Option.some Jvm.ClassFile.FieldType.int)) ∈ tbG := tbG_of (in_t3 (List.mem_of_getElem? (i := 111) (by decide +kernel))) rfl
theorem q_596 : (Jvm.Cond.methodLink "FacesOfLines" (189 : Nat) ({ cls := "FacesOfLines$Standing", name := "stand", desc := "(LFacesOfLines$Lines;JJ)V" } : Jvm.MethodName)) ∈ tbG := tbG_of (in_t3 (List.mem_of_getElem? (i := 116) (by decide +kernel))) rfl
theorem q_597 : (Jvm.Cond.instanceMethod ({ cls := "FacesOfLines$Standing", name := "stand", desc := "(LFacesOfLines$Lines;JJ)V" } : Jvm.MethodName)) ∈ tbG := tbG_of (in_t3 (List.mem_of_getElem? (i := 117) (by decide +kernel))) rfl
theorem q_598 : (Jvm.Cond.selects "FacesOfLines$Standing" ({ cls := "FacesOfLines$Standing", name := "stand", desc := "(LFacesOfLines$Lines;JJ)V" } : Jvm.MethodName) ({ cls := "FacesOfLines$Standing", name := "stand", desc := "(LFacesOfLines$Lines;JJ)V" } : Jvm.MethodName)) ∈ tbG := tbG_of (in_t3 (List.mem_of_getElem? (i := 118) (by decide +kernel))) rfl
theorem q_599 : (Jvm.Cond.code ({ cls := "FacesOfLines$Standing", name := "stand", desc := "(LFacesOfLines$Lines;JJ)V" } : Jvm.MethodName) prog_9_method_2_code (7 : Nat) (Option.none : Option Jvm.ClassFile.FieldType)) ∈ tbG := tbG_of (in_t3 (List.mem_of_getElem? (i := 119) (by decide +kernel))) rfl
theorem q_600 : (Jvm.Cond.methodLink "FacesOfLines$Standing" (26 : Nat) ({ cls := "FacesOfLines$Lines", name := "isUpright", desc := "(I)Z" } : Jvm.MethodName)) ∈ tbG := tbG_of (in_t3 (List.mem_of_getElem? (i := 120) (by decide +kernel))) rfl
theorem q_601 : (Jvm.Cond.methodLink "FacesOfLines$Standing" (30 : Nat) ({ cls := "FacesOfLines$Lines", name := "reaches", desc := "(IJJ)Z" } : Jvm.MethodName)) ∈ tbG := tbG_of (in_t3 (List.mem_of_getElem? (i := 121) (by decide +kernel))) rfl
theorem q_602 : (Jvm.Cond.methodLink "FacesOfLines$Standing" (34 : Nat) ({ cls := "FacesOfLines$Lines", name := "height", desc := "(IJJ)J" } : Jvm.MethodName)) ∈ tbG := tbG_of (in_t3 (List.mem_of_getElem? (i := 122) (by decide +kernel))) rfl
theorem q_603 : (Jvm.Cond.instanceMethod ({ cls := "FacesOfLines$Lines", name := "height", desc := "(IJJ)J" } : Jvm.MethodName)) ∈ tbG := tbG_of (in_t3 (List.mem_of_getElem? (i := 123) (by decide +kernel))) rfl
theorem q_604 : (Jvm.Cond.selects "FacesOfLines$Lines" ({ cls := "FacesOfLines$Lines", name := "height", desc := "(IJJ)J" } : Jvm.MethodName) ({ cls := "FacesOfLines$Lines", name := "height", desc := "(IJJ)J" } : Jvm.MethodName)) ∈ tbG := tbG_of (in_t3 (List.mem_of_getElem? (i := 124) (by decide +kernel))) rfl
theorem q_605 : (Jvm.Cond.code ({ cls := "FacesOfLines$Lines", name := "height", desc := "(IJJ)J" } : Jvm.MethodName) prog_4_method_12_code (6 : Nat) (Option.some Jvm.ClassFile.FieldType.long)) ∈ tbG := tbG_of (in_t3 (List.mem_of_getElem? (i := 125) (by decide +kernel))) rfl
theorem q_606 : (Jvm.Cond.methodLink "FacesOfLines$Standing" (37 : Nat) ({ cls := "FacesOfLines$Standing", name := "let", desc := "(LFacesOfLines$Lines;I)V" } : Jvm.MethodName)) ∈ tbG := tbG_of (in_t3 (List.mem_of_getElem? (i := 126) (by decide +kernel))) rfl
theorem q_608 : (Jvm.Cond.instanceMethod ({ cls := "FacesOfLines$Standing", name := "let", desc := "(LFacesOfLines$Lines;I)V" } : Jvm.MethodName)) ∈ tbG := tbG_of (in_t3 (List.mem_of_getElem? (i := 128) (by decide +kernel))) rfl
theorem q_609 : (Jvm.Cond.code ({ cls := "FacesOfLines$Standing", name := "let", desc := "(LFacesOfLines$Lines;I)V" } : Jvm.MethodName) prog_9_method_3_code (5 : Nat) (Option.none : Option Jvm.ClassFile.FieldType)) ∈ tbG := tbG_of (in_t3 (List.mem_of_getElem? (i := 129) (by decide +kernel))) rfl
theorem q_610 : (Jvm.Cond.methodLink "FacesOfLines$Standing" (41 : Nat) ({ cls := "FacesOfLines$Standing", name := "compareTwo", desc := "(LFacesOfLines$Lines;II)I" } : Jvm.MethodName)) ∈ tbG := tbG_of (in_t3 (List.mem_of_getElem? (i := 130) (by decide +kernel))) rfl
theorem q_611 : (Jvm.Cond.instanceMethod ({ cls := "FacesOfLines$Standing", name := "compareTwo", desc := "(LFacesOfLines$Lines;II)I" } : Jvm.MethodName)) ∈ tbG := tbG_of (in_t3 (List.mem_of_getElem? (i := 131) (by decide +kernel))) rfl
theorem q_612 : (Jvm.Cond.selects "FacesOfLines$Standing" ({ cls := "FacesOfLines$Standing", name := "compareTwo", desc := "(LFacesOfLines$Lines;II)I" } : Jvm.MethodName) ({ cls := "FacesOfLines$Standing", name := "compareTwo", desc := "(LFacesOfLines$Lines;II)I" } : Jvm.MethodName)) ∈ tbG := tbG_of (in_t3 (List.mem_of_getElem? (i := 132) (by decide +kernel))) rfl
theorem q_613 : (Jvm.Cond.code ({ cls := "FacesOfLines$Standing", name := "compareTwo", desc := "(LFacesOfLines$Lines;II)I" } : Jvm.MethodName) prog_9_method_4_code (5 : Nat) (Option.some Jvm.ClassFile.FieldType.int)) ∈ tbG := tbG_of (in_t3 (List.mem_of_getElem? (i := 133) (by decide +kernel))) rfl
theorem q_614 : (Jvm.Cond.methodLink "FacesOfLines$Standing" (45 : Nat) ({ cls := "FacesOfLines$Lines", name := "run", desc := "(I)J" } : Jvm.MethodName)) ∈ tbG := tbG_of (in_t3 (List.mem_of_getElem? (i := 134) (by decide +kernel))) rfl
theorem q_615 : (Jvm.Cond.methodLinkNest "FacesOfLines$Standing" (49 : Nat) ({ cls := "FacesOfLines", name := "compareFractions", desc := "(JJJJ)I" } : Jvm.MethodName) "FacesOfLines") ∈ tbG := tbG_of (in_t3 (List.mem_of_getElem? (i := 135) (by decide +kernel))) rfl
theorem q_616 : (Jvm.Cond.methodLink "FacesOfLines$Standing" (53 : Nat) ({ cls := "FacesOfLines$Lines", name := "rise", desc := "(I)J" } : Jvm.MethodName)) ∈ tbG := tbG_of (in_t3 (List.mem_of_getElem? (i := 136) (by decide +kernel))) rfl
theorem q_621 : (Jvm.Cond.methodLink "FacesOfLines" (197 : Nat) ({ cls := "FacesOfLines", name := "knowFaces", desc := "()V" } : Jvm.MethodName)) ∈ tbG := tbG_of (in_t3 (List.mem_of_getElem? (i := 141) (by decide +kernel))) rfl
theorem q_623 : (Jvm.Cond.instanceMethod ({ cls := "FacesOfLines", name := "knowFaces", desc := "()V" } : Jvm.MethodName)) ∈ tbG := tbG_of (in_t3 (List.mem_of_getElem? (i := 143) (by decide +kernel))) rfl
theorem q_624 : (Jvm.Cond.code ({ cls := "FacesOfLines", name := "knowFaces", desc := "()V" } : Jvm.MethodName) prog_1_method_37_code (1 : Nat) (Option.none : Option Jvm.ClassFile.FieldType)) ∈ tbG := tbG_of (in_t3 (List.mem_of_getElem? (i := 144) (by decide +kernel))) rfl
theorem q_625 : (Jvm.Cond.methodLink "FacesOfLines" (351 : Nat) ({ cls := "FacesOfLines$Slabs", name := "cut", desc := "(LFacesOfLines$Lines;LFacesOfLines$Points;LFacesOfLines$Standing;)V" } : Jvm.MethodName)) ∈ tbG := tbG_of (in_t3 (List.mem_of_getElem? (i := 145) (by decide +kernel))) rfl
theorem q_626 : (Jvm.Cond.instanceMethod ({ cls := "FacesOfLines$Slabs", name := "cut", desc := "(LFacesOfLines$Lines;LFacesOfLines$Points;LFacesOfLines$Standing;)V" } : Jvm.MethodName)) ∈ tbG := tbG_of (in_t3 (List.mem_of_getElem? (i := 146) (by decide +kernel))) rfl
theorem q_627 : (Jvm.Cond.selects "FacesOfLines$Slabs" ({ cls := "FacesOfLines$Slabs", name := "cut", desc := "(LFacesOfLines$Lines;LFacesOfLines$Points;LFacesOfLines$Standing;)V" } : Jvm.MethodName) ({ cls := "FacesOfLines$Slabs", name := "cut", desc := "(LFacesOfLines$Lines;LFacesOfLines$Points;LFacesOfLines$Standing;)V" } : Jvm.MethodName)) ∈ tbG := tbG_of (in_t3 (List.mem_of_getElem? (i := 147) (by decide +kernel))) rfl
theorem q_628 : (Jvm.Cond.code ({ cls := "FacesOfLines$Slabs", name := "cut", desc := "(LFacesOfLines$Lines;LFacesOfLines$Points;LFacesOfLines$Standing;)V" } : Jvm.MethodName) prog_8_method_2_code (5 : Nat) (Option.none : Option Jvm.ClassFile.FieldType)) ∈ tbG := tbG_of (in_t3 (List.mem_of_getElem? (i := 148) (by decide +kernel))) rfl
theorem q_629 : (Jvm.Cond.methodLink "FacesOfLines$Slabs" (31 : Nat) ({ cls := "FacesOfLines$Slabs", name := "findXs", desc := "(LFacesOfLines$Points;)V" } : Jvm.MethodName)) ∈ tbG := tbG_of (in_t3 (List.mem_of_getElem? (i := 149) (by decide +kernel))) rfl
theorem q_631 : (Jvm.Cond.instanceMethod ({ cls := "FacesOfLines$Slabs", name := "findXs", desc := "(LFacesOfLines$Points;)V" } : Jvm.MethodName)) ∈ tbG := tbG_of (in_t3 (List.mem_of_getElem? (i := 151) (by decide +kernel))) rfl
theorem q_632 : (Jvm.Cond.code ({ cls := "FacesOfLines$Slabs", name := "findXs", desc := "(LFacesOfLines$Points;)V" } : Jvm.MethodName) prog_8_method_3_code (4 : Nat) (Option.none : Option Jvm.ClassFile.FieldType)) ∈ tbG := tbG_of (in_t3 (List.mem_of_getElem? (i := 152) (by decide +kernel))) rfl
theorem q_633 : (Jvm.Cond.methodLinkNest "FacesOfLines$Slabs" (63 : Nat) ({ cls := "FacesOfLines", name := "compareFractions", desc := "(JJJJ)I" } : Jvm.MethodName) "FacesOfLines") ∈ tbG := tbG_of (in_t3 (List.mem_of_getElem? (i := 153) (by decide +kernel))) rfl
theorem q_634 : (Jvm.Cond.methodLink "FacesOfLines$Slabs" (42 : Nat) ({ cls := "FacesOfLines$Slabs", name := "addCell", desc := "(III)V" } : Jvm.MethodName)) ∈ tbG := tbG_of (in_t3 (List.mem_of_getElem? (i := 154) (by decide +kernel))) rfl
theorem q_636 : (Jvm.Cond.instanceMethod ({ cls := "FacesOfLines$Slabs", name := "addCell", desc := "(III)V" } : Jvm.MethodName)) ∈ tbG := tbG_of (in_t3 (List.mem_of_getElem? (i := 156) (by decide +kernel))) rfl
theorem q_637 : (Jvm.Cond.code ({ cls := "FacesOfLines$Slabs", name := "addCell", desc := "(III)V" } : Jvm.MethodName) prog_8_method_5_code (4 : Nat) (Option.none : Option Jvm.ClassFile.FieldType)) ∈ tbG := tbG_of (in_t3 (List.mem_of_getElem? (i := 157) (by decide +kernel))) rfl
theorem q_638 : (Jvm.Cond.methodLink "FacesOfLines$Slabs" (46 : Nat) ({ cls := "FacesOfLines$Standing", name := "stand", desc := "(LFacesOfLines$Lines;JJ)V" } : Jvm.MethodName)) ∈ tbG := tbG_of (in_t3 (List.mem_of_getElem? (i := 158) (by decide +kernel))) rfl
theorem q_639 : (Jvm.Cond.methodLink "FacesOfLines$Slabs" (52 : Nat) ({ cls := "FacesOfLines$Slabs", name := "addCells", desc := "(LFacesOfLines$Lines;LFacesOfLines$Standing;I)V" } : Jvm.MethodName)) ∈ tbG := tbG_of (in_t3 (List.mem_of_getElem? (i := 159) (by decide +kernel))) rfl
theorem q_641 : (Jvm.Cond.instanceMethod ({ cls := "FacesOfLines$Slabs", name := "addCells", desc := "(LFacesOfLines$Lines;LFacesOfLines$Standing;I)V" } : Jvm.MethodName)) ∈ tbG := tbG_of (in_t3 (List.mem_of_getElem? (i := 161) (by decide +kernel))) rfl
theorem q_642 : (Jvm.Cond.code ({ cls := "FacesOfLines$Slabs", name := "addCells", desc := "(LFacesOfLines$Lines;LFacesOfLines$Standing;I)V" } : Jvm.MethodName) prog_8_method_4_code (9 : Nat) (Option.none : Option Jvm.ClassFile.FieldType)) ∈ tbG := tbG_of (in_t3 (List.mem_of_getElem? (i := 162) (by decide +kernel))) rfl
theorem q_643 : (Jvm.Cond.methodLink "FacesOfLines$Slabs" (71 : Nat) ({ cls := "FacesOfLines$Lines", name := "reaches", desc := "(IJJ)Z" } : Jvm.MethodName)) ∈ tbG := tbG_of (in_t3 (List.mem_of_getElem? (i := 163) (by decide +kernel))) rfl
theorem q_644 : (Jvm.Cond.methodLink "FacesOfLines$Slabs" (77 : Nat) ({ cls := "FacesOfLines$Standing", name := "compareTwo", desc := "(LFacesOfLines$Lines;II)I" } : Jvm.MethodName)) ∈ tbG := tbG_of (in_t3 (List.mem_of_getElem? (i := 164) (by decide +kernel))) rfl
theorem q_645 : (Jvm.Cond.methodLink "FacesOfLines" (355 : Nat) ({ cls := "FacesOfLines$Stretches", name := "find", desc := "(LFacesOfLines$Lines;LFacesOfLines$Slabs;)V" } : Jvm.MethodName)) ∈ tbG := tbG_of (in_t3 (List.mem_of_getElem? (i := 165) (by decide +kernel))) rfl
theorem q_646 : (Jvm.Cond.instanceMethod ({ cls := "FacesOfLines$Stretches", name := "find", desc := "(LFacesOfLines$Lines;LFacesOfLines$Slabs;)V" } : Jvm.MethodName)) ∈ tbG := tbG_of (in_t3 (List.mem_of_getElem? (i := 166) (by decide +kernel))) rfl
theorem q_647 : (Jvm.Cond.selects "FacesOfLines$Stretches" ({ cls := "FacesOfLines$Stretches", name := "find", desc := "(LFacesOfLines$Lines;LFacesOfLines$Slabs;)V" } : Jvm.MethodName) ({ cls := "FacesOfLines$Stretches", name := "find", desc := "(LFacesOfLines$Lines;LFacesOfLines$Slabs;)V" } : Jvm.MethodName)) ∈ tbG := tbG_of (in_t3 (List.mem_of_getElem? (i := 167) (by decide +kernel))) rfl
theorem q_648 : (Jvm.Cond.code ({ cls := "FacesOfLines$Stretches", name := "find", desc := "(LFacesOfLines$Lines;LFacesOfLines$Slabs;)V" } : Jvm.MethodName) prog_10_method_2_code (7 : Nat) (Option.none : Option Jvm.ClassFile.FieldType)) ∈ tbG := tbG_of (in_t3 (List.mem_of_getElem? (i := 168) (by decide +kernel))) rfl
theorem q_649 : (Jvm.Cond.methodLink "FacesOfLines$Stretches" (49 : Nat) ({ cls := "FacesOfLines$Stretches", name := "findSteps", desc := "(LFacesOfLines$Lines;JJ)V" } : Jvm.MethodName)) ∈ tbG := tbG_of (in_t3 (List.mem_of_getElem? (i := 169) (by decide +kernel))) rfl
theorem q_651 : (Jvm.Cond.instanceMethod ({ cls := "FacesOfLines$Stretches", name := "findSteps", desc := "(LFacesOfLines$Lines;JJ)V" } : Jvm.MethodName)) ∈ tbG := tbG_of (in_t3 (List.mem_of_getElem? (i := 171) (by decide +kernel))) rfl
theorem q_652 : (Jvm.Cond.code ({ cls := "FacesOfLines$Stretches", name := "findSteps", desc := "(LFacesOfLines$Lines;JJ)V" } : Jvm.MethodName) prog_10_method_3_code (7 : Nat) (Option.none : Option Jvm.ClassFile.FieldType)) ∈ tbG := tbG_of (in_t3 (List.mem_of_getElem? (i := 172) (by decide +kernel))) rfl
theorem q_653 : (Jvm.Cond.methodLink "FacesOfLines$Stretches" (74 : Nat) ({ cls := "FacesOfLines$Lines", name := "reaches", desc := "(IJJ)Z" } : Jvm.MethodName)) ∈ tbG := tbG_of (in_t3 (List.mem_of_getElem? (i := 173) (by decide +kernel))) rfl
theorem q_654 : (Jvm.Cond.methodLink "FacesOfLines$Stretches" (78 : Nat) ({ cls := "FacesOfLines$Lines", name := "isUpright", desc := "(I)Z" } : Jvm.MethodName)) ∈ tbG := tbG_of (in_t3 (List.mem_of_getElem? (i := 174) (by decide +kernel))) rfl
theorem q_655 : (Jvm.Cond.methodLink "FacesOfLines$Stretches" (85 : Nat) ({ cls := "FacesOfLines$Stretches", name := "addStep", desc := "(JJ)V" } : Jvm.MethodName)) ∈ tbG := tbG_of (in_t3 (List.mem_of_getElem? (i := 175) (by decide +kernel))) rfl
theorem q_657 : (Jvm.Cond.instanceMethod ({ cls := "FacesOfLines$Stretches", name := "addStep", desc := "(JJ)V" } : Jvm.MethodName)) ∈ tbG := tbG_of (in_t3 (List.mem_of_getElem? (i := 177) (by decide +kernel))) rfl
theorem q_658 : (Jvm.Cond.code ({ cls := "FacesOfLines$Stretches", name := "addStep", desc := "(JJ)V" } : Jvm.MethodName) prog_10_method_4_code (7 : Nat) (Option.none : Option Jvm.ClassFile.FieldType)) ∈ tbG := tbG_of (in_t3 (List.mem_of_getElem? (i := 178) (by decide +kernel))) rfl
theorem q_659 : (Jvm.Cond.methodLink "FacesOfLines$Stretches" (100 : Nat) ({ cls := "FacesOfLines$Stretches", name := "stepsUnder", desc := "(JJ)I" } : Jvm.MethodName)) ∈ tbG := tbG_of (in_t3 (List.mem_of_getElem? (i := 179) (by decide +kernel))) rfl
theorem q_661 : (Jvm.Cond.instanceMethod ({ cls := "FacesOfLines$Stretches", name := "stepsUnder", desc := "(JJ)I" } : Jvm.MethodName)) ∈ tbG := tbG_of (in_t3 (List.mem_of_getElem? (i := 181) (by decide +kernel))) rfl
theorem q_662 : (Jvm.Cond.code ({ cls := "FacesOfLines$Stretches", name := "stepsUnder", desc := "(JJ)I" } : Jvm.MethodName) prog_10_method_5_code (7 : Nat) (Option.some Jvm.ClassFile.FieldType.int)) ∈ tbG := tbG_of (in_t3 (List.mem_of_getElem? (i := 182) (by decide +kernel))) rfl
theorem q_663 : (Jvm.Cond.methodLinkNest "FacesOfLines$Stretches" (104 : Nat) ({ cls := "FacesOfLines", name := "compareFractions", desc := "(JJJJ)I" } : Jvm.MethodName) "FacesOfLines") ∈ tbG := tbG_of (in_t3 (List.mem_of_getElem? (i := 183) (by decide +kernel))) rfl
theorem q_664 : (Jvm.Cond.methodLink "FacesOfLines$Stretches" (92 : Nat) ({ cls := "FacesOfLines$Lines", name := "height", desc := "(IJJ)J" } : Jvm.MethodName)) ∈ tbG := tbG_of (in_t3 (List.mem_of_getElem? (i := 184) (by decide +kernel))) rfl
theorem q_665 : (Jvm.Cond.methodLink "FacesOfLines$Stretches" (96 : Nat) ({ cls := "FacesOfLines$Lines", name := "run", desc := "(I)J" } : Jvm.MethodName)) ∈ tbG := tbG_of (in_t3 (List.mem_of_getElem? (i := 185) (by decide +kernel))) rfl
theorem q_666 : (Jvm.Cond.methodLink "FacesOfLines$Stretches" (59 : Nat) ({ cls := "FacesOfLines$Stretches", name := "cellAt", desc := "(LFacesOfLines$Slabs;III)I" } : Jvm.MethodName)) ∈ tbG := tbG_of (in_t3 (List.mem_of_getElem? (i := 186) (by decide +kernel))) rfl
theorem q_668 : (Jvm.Cond.instanceMethod ({ cls := "FacesOfLines$Stretches", name := "cellAt", desc := "(LFacesOfLines$Slabs;III)I" } : Jvm.MethodName)) ∈ tbG := tbG_of (in_t3 (List.mem_of_getElem? (i := 188) (by decide +kernel))) rfl
theorem q_669 : (Jvm.Cond.code ({ cls := "FacesOfLines$Stretches", name := "cellAt", desc := "(LFacesOfLines$Slabs;III)I" } : Jvm.MethodName) prog_10_method_6_code (8 : Nat) (Option.some Jvm.ClassFile.FieldType.int)) ∈ tbG := tbG_of (in_t3 (List.mem_of_getElem? (i := 189) (by decide +kernel))) rfl
theorem q_670 : (Jvm.Cond.methodLinkNest "FacesOfLines$Stretches" (111 : Nat) ({ cls := "FacesOfLines", name := "leastOf", desc := "(I)I" } : Jvm.MethodName) "FacesOfLines") ∈ tbG := tbG_of (in_t3 (List.mem_of_getElem? (i := 190) (by decide +kernel))) rfl
theorem q_671 : (Jvm.Cond.methodLink "FacesOfLines$Stretches" (63 : Nat) ({ cls := "FacesOfLines$Stretches", name := "uprightsAt", desc := "(LFacesOfLines$Lines;JJI)I" } : Jvm.MethodName)) ∈ tbG := tbG_of (in_t3 (List.mem_of_getElem? (i := 191) (by decide +kernel))) rfl
theorem q_673 : (Jvm.Cond.instanceMethod ({ cls := "FacesOfLines$Stretches", name := "uprightsAt", desc := "(LFacesOfLines$Lines;JJI)I" } : Jvm.MethodName)) ∈ tbG := tbG_of (in_t3 (List.mem_of_getElem? (i := 193) (by decide +kernel))) rfl
theorem q_674 : (Jvm.Cond.code ({ cls := "FacesOfLines$Stretches", name := "uprightsAt", desc := "(LFacesOfLines$Lines;JJI)I" } : Jvm.MethodName) prog_10_method_7_code (9 : Nat) (Option.some Jvm.ClassFile.FieldType.int)) ∈ tbG := tbG_of (in_t3 (List.mem_of_getElem? (i := 194) (by decide +kernel))) rfl
theorem q_675 : (Jvm.Cond.methodLink "FacesOfLines$Stretches" (67 : Nat) ({ cls := "FacesOfLines$Stretches", name := "add", desc := "(III)V" } : Jvm.MethodName)) ∈ tbG := tbG_of (in_t3 (List.mem_of_getElem? (i := 195) (by decide +kernel))) rfl
theorem q_677 : (Jvm.Cond.instanceMethod ({ cls := "FacesOfLines$Stretches", name := "add", desc := "(III)V" } : Jvm.MethodName)) ∈ tbG := tbG_of (in_t3 (List.mem_of_getElem? (i := 197) (by decide +kernel))) rfl
theorem q_678 : (Jvm.Cond.code ({ cls := "FacesOfLines$Stretches", name := "add", desc := "(III)V" } : Jvm.MethodName) prog_10_method_8_code (4 : Nat) (Option.none : Option Jvm.ClassFile.FieldType)) ∈ tbG := tbG_of (in_t3 (List.mem_of_getElem? (i := 198) (by decide +kernel))) rfl
theorem q_679 : (Jvm.Cond.methodLink "FacesOfLines" (358 : Nat) ({ cls := "FacesOfLines$Faces", name := "join", desc := "(LFacesOfLines$Slabs;LFacesOfLines$Stretches;)V" } : Jvm.MethodName)) ∈ tbG := tbG_of (in_t3 (List.mem_of_getElem? (i := 199) (by decide +kernel))) rfl
theorem q_680 : (Jvm.Cond.instanceMethod ({ cls := "FacesOfLines$Faces", name := "join", desc := "(LFacesOfLines$Slabs;LFacesOfLines$Stretches;)V" } : Jvm.MethodName)) ∈ tbG := tbG_of (in_t3 (List.mem_of_getElem? (i := 200) (by decide +kernel))) rfl
theorem q_681 : (Jvm.Cond.selects "FacesOfLines$Faces" ({ cls := "FacesOfLines$Faces", name := "join", desc := "(LFacesOfLines$Slabs;LFacesOfLines$Stretches;)V" } : Jvm.MethodName) ({ cls := "FacesOfLines$Faces", name := "join", desc := "(LFacesOfLines$Slabs;LFacesOfLines$Stretches;)V" } : Jvm.MethodName)) ∈ tbG := tbG_of (in_t3 (List.mem_of_getElem? (i := 201) (by decide +kernel))) rfl
theorem q_682 : (Jvm.Cond.code ({ cls := "FacesOfLines$Faces", name := "join", desc := "(LFacesOfLines$Slabs;LFacesOfLines$Stretches;)V" } : Jvm.MethodName) prog_2_method_2_code (4 : Nat) (Option.none : Option Jvm.ClassFile.FieldType)) ∈ tbG := tbG_of (in_t3 (List.mem_of_getElem? (i := 202) (by decide +kernel))) rfl
theorem q_683 : (Jvm.Cond.methodLink "FacesOfLines$Faces" (50 : Nat) ({ cls := "FacesOfLines$Faces", name := "unite", desc := "(II)V" } : Jvm.MethodName)) ∈ tbG := tbG_of (in_t3 (List.mem_of_getElem? (i := 203) (by decide +kernel))) rfl
theorem q_685 : (Jvm.Cond.instanceMethod ({ cls := "FacesOfLines$Faces", name := "unite", desc := "(II)V" } : Jvm.MethodName)) ∈ tbG := tbG_of (in_t3 (List.mem_of_getElem? (i := 205) (by decide +kernel))) rfl
theorem q_686 : (Jvm.Cond.code ({ cls := "FacesOfLines$Faces", name := "unite", desc := "(II)V" } : Jvm.MethodName) prog_2_method_3_code (5 : Nat) (Option.none : Option Jvm.ClassFile.FieldType)) ∈ tbG := tbG_of (in_t3 (List.mem_of_getElem? (i := 206) (by decide +kernel))) rfl
theorem q_687 : (Jvm.Cond.methodLink "FacesOfLines$Faces" (66 : Nat) ({ cls := "FacesOfLines$Faces", name := "rootOf", desc := "(I)I" } : Jvm.MethodName)) ∈ tbG := tbG_of (in_t3 (List.mem_of_getElem? (i := 207) (by decide +kernel))) rfl
theorem q_689 : (Jvm.Cond.instanceMethod ({ cls := "FacesOfLines$Faces", name := "rootOf", desc := "(I)I" } : Jvm.MethodName)) ∈ tbG := tbG_of (in_t3 (List.mem_of_getElem? (i := 209) (by decide +kernel))) rfl
theorem q_690 : (Jvm.Cond.code ({ cls := "FacesOfLines$Faces", name := "rootOf", desc := "(I)I" } : Jvm.MethodName) prog_2_method_4_code (4 : Nat) (Option.some Jvm.ClassFile.FieldType.int)) ∈ tbG := tbG_of (in_t3 (List.mem_of_getElem? (i := 210) (by decide +kernel))) rfl
theorem q_691 : (Jvm.Cond.methodLink "FacesOfLines$Faces" (70 : Nat) ({ cls := "java/lang/Math", name := "max", desc := "(II)I" } : Jvm.MethodName)) ∈ tbG := tbG_of (in_t3 (List.mem_of_getElem? (i := 211) (by decide +kernel))) rfl
theorem q_692 : (Jvm.Cond.methodLink "FacesOfLines$Faces" (76 : Nat) ({ cls := "java/lang/Math", name := "min", desc := "(II)I" } : Jvm.MethodName)) ∈ tbG := tbG_of (in_t3 (List.mem_of_getElem? (i := 212) (by decide +kernel))) rfl
theorem q_693 : (Jvm.Cond.methodLink "FacesOfLines$Faces" (54 : Nat) ({ cls := "FacesOfLines$Faces", name := "number", desc := "(I)V" } : Jvm.MethodName)) ∈ tbG := tbG_of (in_t3 (List.mem_of_getElem? (i := 213) (by decide +kernel))) rfl
theorem q_695 : (Jvm.Cond.instanceMethod ({ cls := "FacesOfLines$Faces", name := "number", desc := "(I)V" } : Jvm.MethodName)) ∈ tbG := tbG_of (in_t3 (List.mem_of_getElem? (i := 215) (by decide +kernel))) rfl
theorem q_696 : (Jvm.Cond.code ({ cls := "FacesOfLines$Faces", name := "number", desc := "(I)V" } : Jvm.MethodName) prog_2_method_5_code (4 : Nat) (Option.none : Option Jvm.ClassFile.FieldType)) ∈ tbG := tbG_of (in_t3 (List.mem_of_getElem? (i := 216) (by decide +kernel))) rfl
theorem q_697 : (Jvm.Cond.methodLink "FacesOfLines$Faces" (58 : Nat) ({ cls := "FacesOfLines$Faces", name := "boundByCells", desc := "(LFacesOfLines$Slabs;)V" } : Jvm.MethodName)) ∈ tbG := tbG_of (in_t3 (List.mem_of_getElem? (i := 217) (by decide +kernel))) rfl
theorem q_699 : (Jvm.Cond.instanceMethod ({ cls := "FacesOfLines$Faces", name := "boundByCells", desc := "(LFacesOfLines$Slabs;)V" } : Jvm.MethodName)) ∈ tbG := tbG_of (in_t3 (List.mem_of_getElem? (i := 219) (by decide +kernel))) rfl
theorem q_700 : (Jvm.Cond.code ({ cls := "FacesOfLines$Faces", name := "boundByCells", desc := "(LFacesOfLines$Slabs;)V" } : Jvm.MethodName) prog_2_method_6_code (3 : Nat) (Option.none : Option Jvm.ClassFile.FieldType)) ∈ tbG := tbG_of (in_t3 (List.mem_of_getElem? (i := 220) (by decide +kernel))) rfl
theorem q_701 : (Jvm.Cond.methodLink "FacesOfLines$Faces" (86 : Nat) ({ cls := "FacesOfLines$Faces", name := "link", desc := "(II)V" } : Jvm.MethodName)) ∈ tbG := tbG_of (in_t3 (List.mem_of_getElem? (i := 221) (by decide +kernel))) rfl
theorem q_703 : (Jvm.Cond.instanceMethod ({ cls := "FacesOfLines$Faces", name := "link", desc := "(II)V" } : Jvm.MethodName)) ∈ tbG := tbG_of (in_t3 (List.mem_of_getElem? (i := 223) (by decide +kernel))) rfl
theorem q_704 : (Jvm.Cond.code ({ cls := "FacesOfLines$Faces", name := "link", desc := "(II)V" } : Jvm.MethodName) prog_2_method_8_code (3 : Nat) (Option.none : Option Jvm.ClassFile.FieldType)) ∈ tbG := tbG_of (in_t3 (List.mem_of_getElem? (i := 224) (by decide +kernel))) rfl
theorem q_705 : (Jvm.Cond.methodLink "FacesOfLines$Faces" (62 : Nat) ({ cls := "FacesOfLines$Faces", name := "boundByUprights", desc := "(LFacesOfLines$Stretches;)V" } : Jvm.MethodName)) ∈ tbG := tbG_of (in_t3 (List.mem_of_getElem? (i := 225) (by decide +kernel))) rfl
theorem q_707 : (Jvm.Cond.instanceMethod ({ cls := "FacesOfLines$Faces", name := "boundByUprights", desc := "(LFacesOfLines$Stretches;)V" } : Jvm.MethodName)) ∈ tbG := tbG_of (in_t3 (List.mem_of_getElem? (i := 227) (by decide +kernel))) rfl
theorem q_708 : (Jvm.Cond.code ({ cls := "FacesOfLines$Faces", name := "boundByUprights", desc := "(LFacesOfLines$Stretches;)V" } : Jvm.MethodName) prog_2_method_7_code (5 : Nat) (Option.none : Option Jvm.ClassFile.FieldType)) ∈ tbG := tbG_of (in_t3 (List.mem_of_getElem? (i := 228) (by decide +kernel))) rfl
theorem q_713 : (Jvm.Cond.methodLink "FacesOfLines" (220 : Nat) ({ cls := "FacesOfLines", name := "leastOf", desc := "(I)I" } : Jvm.MethodName)) ∈ tbG := tbG_of (in_t3 (List.mem_of_getElem? (i := 233) (by decide +kernel))) rfl
theorem q_718 : (Jvm.Cond.methodLink "FacesOfLines" (238 : Nat) ({ cls := "java/lang/Long", name := "bitCount", desc := "(J)I" } : Jvm.MethodName)) ∈ tbG := tbG_of (in_t3 (List.mem_of_getElem? (i := 238) (by decide +kernel))) rfl
theorem q_719 : (Jvm.Cond.static ({ cls := "java/lang/Long", name := "bitCount", desc := "(J)I" } : Jvm.MethodName)) ∈ tbG := tbG_of (in_t3 (List.mem_of_getElem? (i := 239) (by decide +kernel))) rfl
theorem q_720 : (Jvm.Cond.code ({ cls := "java/lang/Long", name := "bitCount", desc := "(J)I" } : Jvm.MethodName) prog_14_method_50_code (2 : Nat) (Option.some Jvm.ClassFile.FieldType.int)) ∈ tbG := tbG_of (in_t4 (List.mem_of_getElem? (i := 0) (by decide +kernel))) rfl
theorem q_721 : (Jvm.Cond.constantLong "java/lang/Long" (314 : Nat) (6148914691236517205 : Int64)) ∈ tbG := tbG_of (in_t4 (List.mem_of_getElem? (i := 1) (by decide +kernel))) rfl
theorem q_722 : (Jvm.Cond.constantLong "java/lang/Long" (316 : Nat) (3689348814741910323 : Int64)) ∈ tbG := tbG_of (in_t4 (List.mem_of_getElem? (i := 2) (by decide +kernel))) rfl
theorem q_723 : (Jvm.Cond.constantLong "java/lang/Long" (318 : Nat) (1085102592571150095 : Int64)) ∈ tbG := tbG_of (in_t4 (List.mem_of_getElem? (i := 3) (by decide +kernel))) rfl
theorem q_728 : (Jvm.Cond.methodLink "FacesOfLines" (244 : Nat) ({ cls := "FacesOfLines", name := "canBePlace", desc := "(III)Z" } : Jvm.MethodName)) ∈ tbG := tbG_of (in_t4 (List.mem_of_getElem? (i := 8) (by decide +kernel))) rfl
theorem q_729 : (Jvm.Cond.static ({ cls := "FacesOfLines", name := "canBePlace", desc := "(III)Z" } : Jvm.MethodName)) ∈ tbG := tbG_of (in_t4 (List.mem_of_getElem? (i := 9) (by decide +kernel))) rfl
theorem q_730 : (Jvm.Cond.code ({ cls := "FacesOfLines", name := "canBePlace", desc := "(III)Z" } : Jvm.MethodName) prog_1_method_31_code (3 : Nat) (Option.some Jvm.ClassFile.FieldType.boolean)) ∈ tbG := tbG_of (in_t4 (List.mem_of_getElem? (i := 10) (by decide +kernel))) rfl
theorem q_731 : (Jvm.Cond.methodLink "FacesOfLines" (248 : Nat) ({ cls := "FacesOfLines", name := "linesOn", desc := "(III)I" } : Jvm.MethodName)) ∈ tbG := tbG_of (in_t4 (List.mem_of_getElem? (i := 11) (by decide +kernel))) rfl
theorem q_733 : (Jvm.Cond.instanceMethod ({ cls := "FacesOfLines", name := "linesOn", desc := "(III)I" } : Jvm.MethodName)) ∈ tbG := tbG_of (in_t4 (List.mem_of_getElem? (i := 13) (by decide +kernel))) rfl
theorem q_734 : (Jvm.Cond.code ({ cls := "FacesOfLines", name := "linesOn", desc := "(III)I" } : Jvm.MethodName) prog_1_method_39_code (6 : Nat) (Option.some Jvm.ClassFile.FieldType.int)) ∈ tbG := tbG_of (in_t4 (List.mem_of_getElem? (i := 14) (by decide +kernel))) rfl
theorem q_735 : (Jvm.Cond.methodLink "FacesOfLines" (365 : Nat) ({ cls := "FacesOfLines$Lines", name := "holds", desc := "(IJJJJ)Z" } : Jvm.MethodName)) ∈ tbG := tbG_of (in_t4 (List.mem_of_getElem? (i := 15) (by decide +kernel))) rfl
theorem q_736 : (Jvm.Cond.methodLink "FacesOfLines" (252 : Nat) ({ cls := "FacesOfLines$Slabs", name := "cellAround", desc := "(LFacesOfLines$Lines;III)I" } : Jvm.MethodName)) ∈ tbG := tbG_of (in_t4 (List.mem_of_getElem? (i := 16) (by decide +kernel))) rfl
theorem q_737 : (Jvm.Cond.instanceMethod ({ cls := "FacesOfLines$Slabs", name := "cellAround", desc := "(LFacesOfLines$Lines;III)I" } : Jvm.MethodName)) ∈ tbG := tbG_of (in_t4 (List.mem_of_getElem? (i := 17) (by decide +kernel))) rfl
theorem q_738 : (Jvm.Cond.selects "FacesOfLines$Slabs" ({ cls := "FacesOfLines$Slabs", name := "cellAround", desc := "(LFacesOfLines$Lines;III)I" } : Jvm.MethodName) ({ cls := "FacesOfLines$Slabs", name := "cellAround", desc := "(LFacesOfLines$Lines;III)I" } : Jvm.MethodName)) ∈ tbG := tbG_of (in_t4 (List.mem_of_getElem? (i := 18) (by decide +kernel))) rfl
theorem q_739 : (Jvm.Cond.code ({ cls := "FacesOfLines$Slabs", name := "cellAround", desc := "(LFacesOfLines$Lines;III)I" } : Jvm.MethodName) prog_8_method_6_code (9 : Nat) (Option.some Jvm.ClassFile.FieldType.int)) ∈ tbG := tbG_of (in_t4 (List.mem_of_getElem? (i := 19) (by decide +kernel))) rfl
theorem q_740 : (Jvm.Cond.methodLinkNest "FacesOfLines$Slabs" (81 : Nat) ({ cls := "FacesOfLines", name := "leastOf", desc := "(I)I" } : Jvm.MethodName) "FacesOfLines") ∈ tbG := tbG_of (in_t4 (List.mem_of_getElem? (i := 20) (by decide +kernel))) rfl
theorem q_741 : (Jvm.Cond.methodLink "FacesOfLines$Slabs" (85 : Nat) ({ cls := "FacesOfLines$Lines", name := "height", desc := "(IJJ)J" } : Jvm.MethodName)) ∈ tbG := tbG_of (in_t4 (List.mem_of_getElem? (i := 21) (by decide +kernel))) rfl
theorem q_742 : (Jvm.Cond.methodLink "FacesOfLines$Slabs" (89 : Nat) ({ cls := "FacesOfLines$Lines", name := "run", desc := "(I)J" } : Jvm.MethodName)) ∈ tbG := tbG_of (in_t4 (List.mem_of_getElem? (i := 22) (by decide +kernel))) rfl
theorem q_751 : (Jvm.Cond.methodLink "FacesOfLines" (256 : Nat) ({ cls := "FacesOfLines$Faces", name := "way", desc := "(II)I" } : Jvm.MethodName)) ∈ tbG := tbG_of (in_t4 (List.mem_of_getElem? (i := 31) (by decide +kernel))) rfl
theorem q_752 : (Jvm.Cond.instanceMethod ({ cls := "FacesOfLines$Faces", name := "way", desc := "(II)I" } : Jvm.MethodName)) ∈ tbG := tbG_of (in_t4 (List.mem_of_getElem? (i := 32) (by decide +kernel))) rfl
theorem q_753 : (Jvm.Cond.selects "FacesOfLines$Faces" ({ cls := "FacesOfLines$Faces", name := "way", desc := "(II)I" } : Jvm.MethodName) ({ cls := "FacesOfLines$Faces", name := "way", desc := "(II)I" } : Jvm.MethodName)) ∈ tbG := tbG_of (in_t4 (List.mem_of_getElem? (i := 33) (by decide +kernel))) rfl
theorem q_754 : (Jvm.Cond.code ({ cls := "FacesOfLines$Faces", name := "way", desc := "(II)I" } : Jvm.MethodName) prog_2_method_9_code (9 : Nat) (Option.some Jvm.ClassFile.FieldType.int)) ∈ tbG := tbG_of (in_t4 (List.mem_of_getElem? (i := 34) (by decide +kernel))) rfl
theorem q_763 : (Jvm.Cond.methodLink "FacesOfLines" (269 : Nat) ({ cls := "FacesOfLines", name := "facesWithout", desc := "(I)I" } : Jvm.MethodName)) ∈ tbG := tbG_of (in_t4 (List.mem_of_getElem? (i := 43) (by decide +kernel))) rfl
theorem q_765 : (Jvm.Cond.instanceMethod ({ cls := "FacesOfLines", name := "facesWithout", desc := "(I)I" } : Jvm.MethodName)) ∈ tbG := tbG_of (in_t4 (List.mem_of_getElem? (i := 45) (by decide +kernel))) rfl
theorem q_766 : (Jvm.Cond.code ({ cls := "FacesOfLines", name := "facesWithout", desc := "(I)I" } : Jvm.MethodName) prog_1_method_40_code (2 : Nat) (Option.some Jvm.ClassFile.FieldType.int)) ∈ tbG := tbG_of (in_t4 (List.mem_of_getElem? (i := 46) (by decide +kernel))) rfl
theorem q_767 : (Jvm.Cond.methodLink "FacesOfLines" (308 : Nat) ({ cls := "FacesOfLines$Lines", name := "become", desc := "(LFacesOfLines$Lines;)V" } : Jvm.MethodName)) ∈ tbG := tbG_of (in_t4 (List.mem_of_getElem? (i := 47) (by decide +kernel))) rfl
theorem q_768 : (Jvm.Cond.instanceMethod ({ cls := "FacesOfLines$Lines", name := "become", desc := "(LFacesOfLines$Lines;)V" } : Jvm.MethodName)) ∈ tbG := tbG_of (in_t4 (List.mem_of_getElem? (i := 48) (by decide +kernel))) rfl
theorem q_769 : (Jvm.Cond.selects "FacesOfLines$Lines" ({ cls := "FacesOfLines$Lines", name := "become", desc := "(LFacesOfLines$Lines;)V" } : Jvm.MethodName) ({ cls := "FacesOfLines$Lines", name := "become", desc := "(LFacesOfLines$Lines;)V" } : Jvm.MethodName)) ∈ tbG := tbG_of (in_t4 (List.mem_of_getElem? (i := 49) (by decide +kernel))) rfl
theorem q_770 : (Jvm.Cond.code ({ cls := "FacesOfLines$Lines", name := "become", desc := "(LFacesOfLines$Lines;)V" } : Jvm.MethodName) prog_4_method_7_code (3 : Nat) (Option.none : Option Jvm.ClassFile.FieldType)) ∈ tbG := tbG_of (in_t4 (List.mem_of_getElem? (i := 50) (by decide +kernel))) rfl
theorem q_771 : (Jvm.Cond.methodLink "FacesOfLines" (369 : Nat) ({ cls := "FacesOfLines$Points", name := "facesAround", desc := "()I" } : Jvm.MethodName)) ∈ tbG := tbG_of (in_t4 (List.mem_of_getElem? (i := 51) (by decide +kernel))) rfl
theorem q_772 : (Jvm.Cond.instanceMethod ({ cls := "FacesOfLines$Points", name := "facesAround", desc := "()I" } : Jvm.MethodName)) ∈ tbG := tbG_of (in_t4 (List.mem_of_getElem? (i := 52) (by decide +kernel))) rfl
theorem q_773 : (Jvm.Cond.selects "FacesOfLines$Points" ({ cls := "FacesOfLines$Points", name := "facesAround", desc := "()I" } : Jvm.MethodName) ({ cls := "FacesOfLines$Points", name := "facesAround", desc := "()I" } : Jvm.MethodName)) ∈ tbG := tbG_of (in_t4 (List.mem_of_getElem? (i := 53) (by decide +kernel))) rfl
theorem q_774 : (Jvm.Cond.code ({ cls := "FacesOfLines$Points", name := "facesAround", desc := "()I" } : Jvm.MethodName) prog_6_method_11_code (1 : Nat) (Option.some Jvm.ClassFile.FieldType.int)) ∈ tbG := tbG_of (in_t4 (List.mem_of_getElem? (i := 54) (by decide +kernel))) rfl
theorem q_783 : (Jvm.Cond.methodLink "FacesOfLines" (272 : Nat) ({ cls := "FacesOfLines", name := "facesDrawn", desc := "(II)I" } : Jvm.MethodName)) ∈ tbG := tbG_of (in_t4 (List.mem_of_getElem? (i := 63) (by decide +kernel))) rfl
theorem q_785 : (Jvm.Cond.instanceMethod ({ cls := "FacesOfLines", name := "facesDrawn", desc := "(II)I" } : Jvm.MethodName)) ∈ tbG := tbG_of (in_t4 (List.mem_of_getElem? (i := 65) (by decide +kernel))) rfl
theorem q_786 : (Jvm.Cond.code ({ cls := "FacesOfLines", name := "facesDrawn", desc := "(II)I" } : Jvm.MethodName) prog_1_method_41_code (9 : Nat) (Option.some Jvm.ClassFile.FieldType.int)) ∈ tbG := tbG_of (in_t4 (List.mem_of_getElem? (i := 66) (by decide +kernel))) rfl
theorem q_787 : (Jvm.Cond.methodLink "FacesOfLines" (373 : Nat) ({ cls := "FacesOfLines", name := "anew", desc := "(I)I" } : Jvm.MethodName)) ∈ tbG := tbG_of (in_t4 (List.mem_of_getElem? (i := 67) (by decide +kernel))) rfl
theorem q_788 : (Jvm.Cond.static ({ cls := "FacesOfLines", name := "anew", desc := "(I)I" } : Jvm.MethodName)) ∈ tbG := tbG_of (in_t4 (List.mem_of_getElem? (i := 68) (by decide +kernel))) rfl
theorem q_789 : (Jvm.Cond.code ({ cls := "FacesOfLines", name := "anew", desc := "(I)I" } : Jvm.MethodName) prog_1_method_42_code (1 : Nat) (Option.some Jvm.ClassFile.FieldType.int)) ∈ tbG := tbG_of (in_t4 (List.mem_of_getElem? (i := 69) (by decide +kernel))) rfl
theorem q_790 : (Jvm.Cond.constant "FacesOfLines" (379 : Nat) (1103515245 : Int32)) ∈ tbG := tbG_of (in_t4 (List.mem_of_getElem? (i := 70) (by decide +kernel))) rfl
theorem q_791 : (Jvm.Cond.methodLink "FacesOfLines" (376 : Nat) ({ cls := "FacesOfLines", name := "coordinateBy", desc := "(I)I" } : Jvm.MethodName)) ∈ tbG := tbG_of (in_t4 (List.mem_of_getElem? (i := 71) (by decide +kernel))) rfl
theorem q_792 : (Jvm.Cond.static ({ cls := "FacesOfLines", name := "coordinateBy", desc := "(I)I" } : Jvm.MethodName)) ∈ tbG := tbG_of (in_t4 (List.mem_of_getElem? (i := 72) (by decide +kernel))) rfl
theorem q_793 : (Jvm.Cond.code ({ cls := "FacesOfLines", name := "coordinateBy", desc := "(I)I" } : Jvm.MethodName) prog_1_method_43_code (1 : Nat) (Option.some Jvm.ClassFile.FieldType.int)) ∈ tbG := tbG_of (in_t4 (List.mem_of_getElem? (i := 73) (by decide +kernel))) rfl
theorem q_798 : (Jvm.Cond.methodLink "FacesOfLines" (275 : Nat) ({ cls := "FacesOfLines", name := "commonDivisor", desc := "(JJ)J" } : Jvm.MethodName)) ∈ tbG := tbG_of (in_t4 (List.mem_of_getElem? (i := 78) (by decide +kernel))) rfl
theorem q_803 : (Jvm.Cond.methodLink "FacesOfLines" (279 : Nat) ({ cls := "FacesOfLines$Sheets", name := "isOne", desc := "(I)Z" } : Jvm.MethodName)) ∈ tbG := tbG_of (in_t4 (List.mem_of_getElem? (i := 83) (by decide +kernel))) rfl
theorem q_804 : (Jvm.Cond.instanceMethod ({ cls := "FacesOfLines$Sheets", name := "isOne", desc := "(I)Z" } : Jvm.MethodName)) ∈ tbG := tbG_of (in_t4 (List.mem_of_getElem? (i := 84) (by decide +kernel))) rfl
theorem q_805 : (Jvm.Cond.selects "FacesOfLines$Sheets" ({ cls := "FacesOfLines$Sheets", name := "isOne", desc := "(I)Z" } : Jvm.MethodName) ({ cls := "FacesOfLines$Sheets", name := "isOne", desc := "(I)Z" } : Jvm.MethodName)) ∈ tbG := tbG_of (in_t4 (List.mem_of_getElem? (i := 85) (by decide +kernel))) rfl
theorem q_806 : (Jvm.Cond.code ({ cls := "FacesOfLines$Sheets", name := "isOne", desc := "(I)Z" } : Jvm.MethodName) prog_7_method_2_code (2 : Nat) (Option.some Jvm.ClassFile.FieldType.boolean)) ∈ tbG := tbG_of (in_t4 (List.mem_of_getElem? (i := 86) (by decide +kernel))) rfl
theorem q_807 : (Jvm.Cond.methodLink "FacesOfLines" (285 : Nat) ({ cls := "FacesOfLines$Sheets", name := "isMissing", desc := "(I)Z" } : Jvm.MethodName)) ∈ tbG := tbG_of (in_t4 (List.mem_of_getElem? (i := 87) (by decide +kernel))) rfl
theorem q_808 : (Jvm.Cond.instanceMethod ({ cls := "FacesOfLines$Sheets", name := "isMissing", desc := "(I)Z" } : Jvm.MethodName)) ∈ tbG := tbG_of (in_t4 (List.mem_of_getElem? (i := 88) (by decide +kernel))) rfl
theorem q_809 : (Jvm.Cond.selects "FacesOfLines$Sheets" ({ cls := "FacesOfLines$Sheets", name := "isMissing", desc := "(I)Z" } : Jvm.MethodName) ({ cls := "FacesOfLines$Sheets", name := "isMissing", desc := "(I)Z" } : Jvm.MethodName)) ∈ tbG := tbG_of (in_t4 (List.mem_of_getElem? (i := 89) (by decide +kernel))) rfl
theorem q_810 : (Jvm.Cond.code ({ cls := "FacesOfLines$Sheets", name := "isMissing", desc := "(I)Z" } : Jvm.MethodName) prog_7_method_4_code (2 : Nat) (Option.some Jvm.ClassFile.FieldType.boolean)) ∈ tbG := tbG_of (in_t4 (List.mem_of_getElem? (i := 90) (by decide +kernel))) rfl
theorem q_811 : (Jvm.Cond.methodLink "FacesOfLines" (290 : Nat) ({ cls := "FacesOfLines$Sheets", name := "firstOtherwise", desc := "(ILFacesOfLines$Standing;I)I" } : Jvm.MethodName)) ∈ tbG := tbG_of (in_t4 (List.mem_of_getElem? (i := 91) (by decide +kernel))) rfl
theorem q_812 : (Jvm.Cond.instanceMethod ({ cls := "FacesOfLines$Sheets", name := "firstOtherwise", desc := "(ILFacesOfLines$Standing;I)I" } : Jvm.MethodName)) ∈ tbG := tbG_of (in_t4 (List.mem_of_getElem? (i := 92) (by decide +kernel))) rfl
theorem q_813 : (Jvm.Cond.selects "FacesOfLines$Sheets" ({ cls := "FacesOfLines$Sheets", name := "firstOtherwise", desc := "(ILFacesOfLines$Standing;I)I" } : Jvm.MethodName) ({ cls := "FacesOfLines$Sheets", name := "firstOtherwise", desc := "(ILFacesOfLines$Standing;I)I" } : Jvm.MethodName)) ∈ tbG := tbG_of (in_t4 (List.mem_of_getElem? (i := 93) (by decide +kernel))) rfl
theorem q_814 : (Jvm.Cond.code ({ cls := "FacesOfLines$Sheets", name := "firstOtherwise", desc := "(ILFacesOfLines$Standing;I)I" } : Jvm.MethodName) prog_7_method_9_code (7 : Nat) (Option.some Jvm.ClassFile.FieldType.int)) ∈ tbG := tbG_of (in_t4 (List.mem_of_getElem? (i := 94) (by decide +kernel))) rfl
theorem q_815 : (Jvm.Cond.methodLink "FacesOfLines$Sheets" (29 : Nat) ({ cls := "FacesOfLines$Sheets", name := "item", desc := "(II)I" } : Jvm.MethodName)) ∈ tbG := tbG_of (in_t4 (List.mem_of_getElem? (i := 95) (by decide +kernel))) rfl
theorem q_816 : (Jvm.Cond.instanceMethod ({ cls := "FacesOfLines$Sheets", name := "item", desc := "(II)I" } : Jvm.MethodName)) ∈ tbG := tbG_of (in_t4 (List.mem_of_getElem? (i := 96) (by decide +kernel))) rfl
theorem q_817 : (Jvm.Cond.selects "FacesOfLines$Sheets" ({ cls := "FacesOfLines$Sheets", name := "item", desc := "(II)I" } : Jvm.MethodName) ({ cls := "FacesOfLines$Sheets", name := "item", desc := "(II)I" } : Jvm.MethodName)) ∈ tbG := tbG_of (in_t4 (List.mem_of_getElem? (i := 97) (by decide +kernel))) rfl
theorem q_818 : (Jvm.Cond.code ({ cls := "FacesOfLines$Sheets", name := "item", desc := "(II)I" } : Jvm.MethodName) prog_7_method_7_code (3 : Nat) (Option.some Jvm.ClassFile.FieldType.int)) ∈ tbG := tbG_of (in_t4 (List.mem_of_getElem? (i := 98) (by decide +kernel))) rfl
theorem q_819 : (Jvm.Cond.methodLink "FacesOfLines" (294 : Nat) ({ cls := "FacesOfLines", name := "toldXs", desc := "(IZ)I" } : Jvm.MethodName)) ∈ tbG := tbG_of (in_t4 (List.mem_of_getElem? (i := 99) (by decide +kernel))) rfl
theorem q_821 : (Jvm.Cond.instanceMethod ({ cls := "FacesOfLines", name := "toldXs", desc := "(IZ)I" } : Jvm.MethodName)) ∈ tbG := tbG_of (in_t4 (List.mem_of_getElem? (i := 101) (by decide +kernel))) rfl
theorem q_822 : (Jvm.Cond.code ({ cls := "FacesOfLines", name := "toldXs", desc := "(IZ)I" } : Jvm.MethodName) prog_1_method_44_code (5 : Nat) (Option.some Jvm.ClassFile.FieldType.int)) ∈ tbG := tbG_of (in_t4 (List.mem_of_getElem? (i := 102) (by decide +kernel))) rfl
theorem q_823 : (Jvm.Cond.methodLink "FacesOfLines" (298 : Nat) ({ cls := "FacesOfLines", name := "toldWithout", desc := "(II)I" } : Jvm.MethodName)) ∈ tbG := tbG_of (in_t4 (List.mem_of_getElem? (i := 103) (by decide +kernel))) rfl
theorem q_825 : (Jvm.Cond.instanceMethod ({ cls := "FacesOfLines", name := "toldWithout", desc := "(II)I" } : Jvm.MethodName)) ∈ tbG := tbG_of (in_t4 (List.mem_of_getElem? (i := 105) (by decide +kernel))) rfl
theorem q_826 : (Jvm.Cond.code ({ cls := "FacesOfLines", name := "toldWithout", desc := "(II)I" } : Jvm.MethodName) prog_1_method_45_code (5 : Nat) (Option.some Jvm.ClassFile.FieldType.int)) ∈ tbG := tbG_of (in_t4 (List.mem_of_getElem? (i := 106) (by decide +kernel))) rfl
theorem q_831 : (Jvm.Cond.methodLink "FacesOfLines" (301 : Nat) ({ cls := "FacesOfLines$Sheets", name := "make", desc := "(III)V" } : Jvm.MethodName)) ∈ tbG := tbG_of (in_t4 (List.mem_of_getElem? (i := 111) (by decide +kernel))) rfl
theorem q_832 : (Jvm.Cond.instanceMethod ({ cls := "FacesOfLines$Sheets", name := "make", desc := "(III)V" } : Jvm.MethodName)) ∈ tbG := tbG_of (in_t4 (List.mem_of_getElem? (i := 112) (by decide +kernel))) rfl
theorem q_833 : (Jvm.Cond.selects "FacesOfLines$Sheets" ({ cls := "FacesOfLines$Sheets", name := "make", desc := "(III)V" } : Jvm.MethodName) ({ cls := "FacesOfLines$Sheets", name := "make", desc := "(III)V" } : Jvm.MethodName)) ∈ tbG := tbG_of (in_t4 (List.mem_of_getElem? (i := 113) (by decide +kernel))) rfl
theorem q_834 : (Jvm.Cond.code ({ cls := "FacesOfLines$Sheets", name := "make", desc := "(III)V" } : Jvm.MethodName) prog_7_method_6_code (5 : Nat) (Option.none : Option Jvm.ClassFile.FieldType)) ∈ tbG := tbG_of (in_t4 (List.mem_of_getElem? (i := 114) (by decide +kernel))) rfl
theorem q_835 : (Jvm.Cond.methodLink "FacesOfLines" (305 : Nat) ({ cls := "FacesOfLines$Sheets", name := "set", desc := "(III)V" } : Jvm.MethodName)) ∈ tbG := tbG_of (in_t4 (List.mem_of_getElem? (i := 115) (by decide +kernel))) rfl
theorem q_836 : (Jvm.Cond.instanceMethod ({ cls := "FacesOfLines$Sheets", name := "set", desc := "(III)V" } : Jvm.MethodName)) ∈ tbG := tbG_of (in_t4 (List.mem_of_getElem? (i := 116) (by decide +kernel))) rfl
theorem q_837 : (Jvm.Cond.selects "FacesOfLines$Sheets" ({ cls := "FacesOfLines$Sheets", name := "set", desc := "(III)V" } : Jvm.MethodName) ({ cls := "FacesOfLines$Sheets", name := "set", desc := "(III)V" } : Jvm.MethodName)) ∈ tbG := tbG_of (in_t4 (List.mem_of_getElem? (i := 117) (by decide +kernel))) rfl
theorem q_838 : (Jvm.Cond.code ({ cls := "FacesOfLines$Sheets", name := "set", desc := "(III)V" } : Jvm.MethodName) prog_7_method_8_code (4 : Nat) (Option.none : Option Jvm.ClassFile.FieldType)) ∈ tbG := tbG_of (in_t4 (List.mem_of_getElem? (i := 118) (by decide +kernel))) rfl
theorem q_851 : (Jvm.Cond.methodLink "FacesOfLines" (316 : Nat) ({ cls := "FacesOfLines$Sheets", name := "isSort", desc := "(I)Z" } : Jvm.MethodName)) ∈ tbG := tbG_of (in_t4 (List.mem_of_getElem? (i := 131) (by decide +kernel))) rfl
theorem q_852 : (Jvm.Cond.instanceMethod ({ cls := "FacesOfLines$Sheets", name := "isSort", desc := "(I)Z" } : Jvm.MethodName)) ∈ tbG := tbG_of (in_t4 (List.mem_of_getElem? (i := 132) (by decide +kernel))) rfl
theorem q_853 : (Jvm.Cond.selects "FacesOfLines$Sheets" ({ cls := "FacesOfLines$Sheets", name := "isSort", desc := "(I)Z" } : Jvm.MethodName) ({ cls := "FacesOfLines$Sheets", name := "isSort", desc := "(I)Z" } : Jvm.MethodName)) ∈ tbG := tbG_of (in_t4 (List.mem_of_getElem? (i := 133) (by decide +kernel))) rfl
theorem q_854 : (Jvm.Cond.code ({ cls := "FacesOfLines$Sheets", name := "isSort", desc := "(I)Z" } : Jvm.MethodName) prog_7_method_3_code (2 : Nat) (Option.some Jvm.ClassFile.FieldType.boolean)) ∈ tbG := tbG_of (in_t4 (List.mem_of_getElem? (i := 134) (by decide +kernel))) rfl
theorem q_863 : (Jvm.Cond.methodLink "FacesOfLines" (322 : Nat) ({ cls := "FacesOfLines$Sheets", name := "hasRow", desc := "(III)Z" } : Jvm.MethodName)) ∈ tbG := tbG_of (in_t4 (List.mem_of_getElem? (i := 143) (by decide +kernel))) rfl
theorem q_864 : (Jvm.Cond.instanceMethod ({ cls := "FacesOfLines$Sheets", name := "hasRow", desc := "(III)Z" } : Jvm.MethodName)) ∈ tbG := tbG_of (in_t4 (List.mem_of_getElem? (i := 144) (by decide +kernel))) rfl
theorem q_865 : (Jvm.Cond.selects "FacesOfLines$Sheets" ({ cls := "FacesOfLines$Sheets", name := "hasRow", desc := "(III)Z" } : Jvm.MethodName) ({ cls := "FacesOfLines$Sheets", name := "hasRow", desc := "(III)Z" } : Jvm.MethodName)) ∈ tbG := tbG_of (in_t4 (List.mem_of_getElem? (i := 145) (by decide +kernel))) rfl
theorem q_866 : (Jvm.Cond.code ({ cls := "FacesOfLines$Sheets", name := "hasRow", desc := "(III)Z" } : Jvm.MethodName) prog_7_method_5_code (4 : Nat) (Option.some Jvm.ClassFile.FieldType.boolean)) ∈ tbG := tbG_of (in_t4 (List.mem_of_getElem? (i := 146) (by decide +kernel))) rfl
theorem q_867 : (Jvm.Cond.methodLink "FacesOfLines" (328 : Nat) ({ cls := "java/lang/System", name := "arraycopy", desc := "(Ljava/lang/Object;ILjava/lang/Object;II)V" } : Jvm.MethodName)) ∈ tbG := tbG_of (in_t4 (List.mem_of_getElem? (i := 147) (by decide +kernel))) rfl
theorem q_868 : (Jvm.Cond.static ({ cls := "java/lang/System", name := "arraycopy", desc := "(Ljava/lang/Object;ILjava/lang/Object;II)V" } : Jvm.MethodName)) ∈ tbG := tbG_of (in_t4 (List.mem_of_getElem? (i := 148) (by decide +kernel))) rfl
theorem q_869 : (Jvm.Cond.native ({ cls := "java/lang/System", name := "arraycopy", desc := "(Ljava/lang/Object;ILjava/lang/Object;II)V" } : Jvm.MethodName)) ∈ tbG := tbG_of (in_t4 (List.mem_of_getElem? (i := 149) (by decide +kernel))) rfl
theorem q_874 : (Jvm.Cond.methodLink "FacesOfLines" (334 : Nat) ({ cls := "FacesOfLines$Sheets", name := "item", desc := "(II)I" } : Jvm.MethodName)) ∈ tbG := tbG_of (in_t4 (List.mem_of_getElem? (i := 154) (by decide +kernel))) rfl
theorem q_875 : (Jvm.Cond.methodLink "FacesOfLines" (337 : Nat) ({ cls := "FacesOfLines", name := "line", desc := "(IIII)I" } : Jvm.MethodName)) ∈ tbG := tbG_of (in_t4 (List.mem_of_getElem? (i := 155) (by decide +kernel))) rfl
theorem q_886 : (Jvm.Cond.fieldLink "FacesOfLinesModel" (109 : Nat) "FacesOfLinesModel" "lines" "I") ∈ tbG := tbG_of (in_t4 (List.mem_of_getElem? (i := 166) (by decide +kernel))) rfl
theorem q_887 : (Jvm.Cond.fieldLink "FacesOfLinesModel" (9 : Nat) "FacesOfLinesModel" "ax" "[I") ∈ tbG := tbG_of (in_t4 (List.mem_of_getElem? (i := 167) (by decide +kernel))) rfl
theorem q_888 : (Jvm.Cond.fieldLink "FacesOfLinesModel" (13 : Nat) "FacesOfLinesModel" "ay" "[I") ∈ tbG := tbG_of (in_t4 (List.mem_of_getElem? (i := 168) (by decide +kernel))) rfl
theorem q_889 : (Jvm.Cond.fieldLink "FacesOfLinesModel" (16 : Nat) "FacesOfLinesModel" "bx" "[I") ∈ tbG := tbG_of (in_t4 (List.mem_of_getElem? (i := 169) (by decide +kernel))) rfl
theorem q_890 : (Jvm.Cond.fieldLink "FacesOfLinesModel" (19 : Nat) "FacesOfLinesModel" "by" "[I") ∈ tbG := tbG_of (in_t4 (List.mem_of_getElem? (i := 170) (by decide +kernel))) rfl
theorem q_891 : (Jvm.Cond.fieldLink "FacesOfLinesModel" (140 : Nat) "FacesOfLinesModel" "how" "I") ∈ tbG := tbG_of (in_t4 (List.mem_of_getElem? (i := 171) (by decide +kernel))) rfl
theorem q_892 : (Jvm.Cond.fieldLink "FacesOfLinesModel" (143 : Nat) "FacesOfLinesModel" "atX" "J") ∈ tbG := tbG_of (in_t4 (List.mem_of_getElem? (i := 172) (by decide +kernel))) rfl
theorem q_893 : (Jvm.Cond.fieldLink "FacesOfLinesModel" (147 : Nat) "FacesOfLinesModel" "atY" "J") ∈ tbG := tbG_of (in_t4 (List.mem_of_getElem? (i := 173) (by decide +kernel))) rfl
theorem q_894 : (Jvm.Cond.fieldLink "FacesOfLinesModel" (150 : Nat) "FacesOfLinesModel" "atBelow" "J") ∈ tbG := tbG_of (in_t4 (List.mem_of_getElem? (i := 174) (by decide +kernel))) rfl
theorem q_895 : (Jvm.Cond.fieldLink "FacesOfLinesModel" (176 : Nat) "FacesOfLinesModel" "points" "I") ∈ tbG := tbG_of (in_t4 (List.mem_of_getElem? (i := 175) (by decide +kernel))) rfl
theorem q_896 : (Jvm.Cond.fieldLink "FacesOfLinesModel" (22 : Nat) "FacesOfLinesModel" "px" "[J") ∈ tbG := tbG_of (in_t4 (List.mem_of_getElem? (i := 176) (by decide +kernel))) rfl
theorem q_897 : (Jvm.Cond.fieldLink "FacesOfLinesModel" (26 : Nat) "FacesOfLinesModel" "pxBelow" "[J") ∈ tbG := tbG_of (in_t4 (List.mem_of_getElem? (i := 177) (by decide +kernel))) rfl
theorem q_898 : (Jvm.Cond.fieldLink "FacesOfLinesModel" (29 : Nat) "FacesOfLinesModel" "py" "[J") ∈ tbG := tbG_of (in_t4 (List.mem_of_getElem? (i := 178) (by decide +kernel))) rfl
theorem q_899 : (Jvm.Cond.fieldLink "FacesOfLinesModel" (32 : Nat) "FacesOfLinesModel" "pyBelow" "[J") ∈ tbG := tbG_of (in_t4 (List.mem_of_getElem? (i := 179) (by decide +kernel))) rfl
theorem q_900 : (Jvm.Cond.fieldLink "FacesOfLinesModel" (35 : Nat) "FacesOfLinesModel" "least" "[I") ∈ tbG := tbG_of (in_t4 (List.mem_of_getElem? (i := 180) (by decide +kernel))) rfl
theorem q_901 : (Jvm.Cond.fieldLink "FacesOfLinesModel" (221 : Nat) "FacesOfLinesModel" "places" "I") ∈ tbG := tbG_of (in_t4 (List.mem_of_getElem? (i := 181) (by decide +kernel))) rfl
theorem q_902 : (Jvm.Cond.fieldLink "FacesOfLinesModel" (38 : Nat) "FacesOfLinesModel" "placeX" "[I") ∈ tbG := tbG_of (in_t4 (List.mem_of_getElem? (i := 182) (by decide +kernel))) rfl
theorem q_903 : (Jvm.Cond.fieldLink "FacesOfLinesModel" (41 : Nat) "FacesOfLinesModel" "placeY" "[I") ∈ tbG := tbG_of (in_t4 (List.mem_of_getElem? (i := 183) (by decide +kernel))) rfl
theorem q_904 : (Jvm.Cond.fieldLink "FacesOfLinesModel" (44 : Nat) "FacesOfLinesModel" "hulls" "[I") ∈ tbG := tbG_of (in_t4 (List.mem_of_getElem? (i := 184) (by decide +kernel))) rfl
theorem q_905 : (Jvm.Cond.fieldLink "FacesOfLinesModel" (47 : Nat) "FacesOfLinesModel" "isBorder" "[Z") ∈ tbG := tbG_of (in_t4 (List.mem_of_getElem? (i := 185) (by decide +kernel))) rfl
theorem q_906 : (Jvm.Cond.fieldLink "FacesOfLinesModel" (247 : Nat) "FacesOfLinesModel" "ordered" "I") ∈ tbG := tbG_of (in_t4 (List.mem_of_getElem? (i := 186) (by decide +kernel))) rfl
theorem q_907 : (Jvm.Cond.fieldLink "FacesOfLinesModel" (51 : Nat) "FacesOfLinesModel" "orders" "[I") ∈ tbG := tbG_of (in_t4 (List.mem_of_getElem? (i := 187) (by decide +kernel))) rfl
theorem q_908 : (Jvm.Cond.fieldLink "FacesOfLinesModel" (278 : Nat) "FacesOfLinesModel" "slabs" "I") ∈ tbG := tbG_of (in_t4 (List.mem_of_getElem? (i := 188) (by decide +kernel))) rfl
theorem q_909 : (Jvm.Cond.fieldLink "FacesOfLinesModel" (267 : Nat) "FacesOfLinesModel" "cells" "I") ∈ tbG := tbG_of (in_t4 (List.mem_of_getElem? (i := 189) (by decide +kernel))) rfl
theorem q_910 : (Jvm.Cond.fieldLink "FacesOfLinesModel" (324 : Nat) "FacesOfLinesModel" "faces" "I") ∈ tbG := tbG_of (in_t4 (List.mem_of_getElem? (i := 190) (by decide +kernel))) rfl
theorem q_911 : (Jvm.Cond.fieldLink "FacesOfLinesModel" (54 : Nat) "FacesOfLinesModel" "slabX" "[J") ∈ tbG := tbG_of (in_t4 (List.mem_of_getElem? (i := 191) (by decide +kernel))) rfl
theorem q_912 : (Jvm.Cond.fieldLink "FacesOfLinesModel" (57 : Nat) "FacesOfLinesModel" "slabBelow" "[J") ∈ tbG := tbG_of (in_t4 (List.mem_of_getElem? (i := 192) (by decide +kernel))) rfl
theorem q_913 : (Jvm.Cond.fieldLink "FacesOfLinesModel" (60 : Nat) "FacesOfLinesModel" "slabFirst" "[I") ∈ tbG := tbG_of (in_t4 (List.mem_of_getElem? (i := 193) (by decide +kernel))) rfl
theorem q_914 : (Jvm.Cond.fieldLink "FacesOfLinesModel" (63 : Nat) "FacesOfLinesModel" "cellSlab" "[I") ∈ tbG := tbG_of (in_t4 (List.mem_of_getElem? (i := 194) (by decide +kernel))) rfl
theorem q_915 : (Jvm.Cond.fieldLink "FacesOfLinesModel" (66 : Nat) "FacesOfLinesModel" "lows" "[I") ∈ tbG := tbG_of (in_t4 (List.mem_of_getElem? (i := 195) (by decide +kernel))) rfl
theorem q_916 : (Jvm.Cond.fieldLink "FacesOfLinesModel" (69 : Nat) "FacesOfLinesModel" "highs" "[I") ∈ tbG := tbG_of (in_t4 (List.mem_of_getElem? (i := 196) (by decide +kernel))) rfl
theorem q_917 : (Jvm.Cond.fieldLink "FacesOfLinesModel" (72 : Nat) "FacesOfLinesModel" "faceOf" "[I") ∈ tbG := tbG_of (in_t4 (List.mem_of_getElem? (i := 197) (by decide +kernel))) rfl
theorem q_918 : (Jvm.Cond.fieldLink "FacesOfLinesModel" (75 : Nat) "FacesOfLinesModel" "through" "[I") ∈ tbG := tbG_of (in_t4 (List.mem_of_getElem? (i := 198) (by decide +kernel))) rfl
theorem q_919 : (Jvm.Cond.fieldLink "FacesOfLinesModel" (290 : Nat) "FacesOfLinesModel" "fromAbove" "J") ∈ tbG := tbG_of (in_t4 (List.mem_of_getElem? (i := 199) (by decide +kernel))) rfl
theorem q_920 : (Jvm.Cond.fieldLink "FacesOfLinesModel" (293 : Nat) "FacesOfLinesModel" "fromBelow" "J") ∈ tbG := tbG_of (in_t4 (List.mem_of_getElem? (i := 200) (by decide +kernel))) rfl
theorem q_921 : (Jvm.Cond.fieldLink "FacesOfLinesModel" (296 : Nat) "FacesOfLinesModel" "toAbove" "J") ∈ tbG := tbG_of (in_t4 (List.mem_of_getElem? (i := 201) (by decide +kernel))) rfl
theorem q_922 : (Jvm.Cond.fieldLink "FacesOfLinesModel" (299 : Nat) "FacesOfLinesModel" "toBelow" "J") ∈ tbG := tbG_of (in_t4 (List.mem_of_getElem? (i := 202) (by decide +kernel))) rfl
theorem q_923 : (Jvm.Cond.fieldLink "FacesOfLinesModel" (78 : Nat) "FacesOfLinesModel" "numberOf" "[I") ∈ tbG := tbG_of (in_t4 (List.mem_of_getElem? (i := 203) (by decide +kernel))) rfl
theorem q_924 : (Jvm.Cond.fieldLink "FacesOfLinesModel" (83 : Nat) "FacesOfLinesModel" "areNext" "[[Z") ∈ tbG := tbG_of (in_t4 (List.mem_of_getElem? (i := 204) (by decide +kernel))) rfl
theorem q_925 : (Jvm.Cond.fieldLink "FacesOfLinesModel" (86 : Nat) "FacesOfLinesModel" "far" "[I") ∈ tbG := tbG_of (in_t4 (List.mem_of_getElem? (i := 205) (by decide +kernel))) rfl
theorem q_926 : (Jvm.Cond.fieldLink "FacesOfLinesModel" (89 : Nat) "FacesOfLinesModel" "keptLines" "[I") ∈ tbG := tbG_of (in_t4 (List.mem_of_getElem? (i := 206) (by decide +kernel))) rfl
theorem q_927 : (Jvm.Cond.fieldLink "FacesOfLinesModel" (94 : Nat) "FacesOfLinesModel" "keptEnds" "[[I") ∈ tbG := tbG_of (in_t4 (List.mem_of_getElem? (i := 207) (by decide +kernel))) rfl
theorem q_928 : (Jvm.Cond.fieldLink "FacesOfLinesModel" (379 : Nat) "FacesOfLinesModel" "z" "I") ∈ tbG := tbG_of (in_t4 (List.mem_of_getElem? (i := 208) (by decide +kernel))) rfl
theorem q_929 : (Jvm.Cond.fieldLink "FacesOfLinesModel" (398 : Nat) "FacesOfLinesModel" "hasImage" "Z") ∈ tbG := tbG_of (in_t4 (List.mem_of_getElem? (i := 209) (by decide +kernel))) rfl
theorem q_930 : (Jvm.Cond.fieldLink "FacesOfLinesModel" (97 : Nat) "FacesOfLinesModel" "sorts" "[I") ∈ tbG := tbG_of (in_t4 (List.mem_of_getElem? (i := 210) (by decide +kernel))) rfl
theorem q_931 : (Jvm.Cond.fieldLink "FacesOfLinesModel" (100 : Nat) "FacesOfLinesModel" "lengths" "[I") ∈ tbG := tbG_of (in_t4 (List.mem_of_getElem? (i := 211) (by decide +kernel))) rfl
theorem q_932 : (Jvm.Cond.fieldLink "FacesOfLinesModel" (103 : Nat) "FacesOfLinesModel" "items" "[[I") ∈ tbG := tbG_of (in_t4 (List.mem_of_getElem? (i := 212) (by decide +kernel))) rfl
theorem q_933 : (Jvm.Cond.fieldLink "FacesOfLinesModel" (106 : Nat) "FacesOfLinesModel" "passed" "[I") ∈ tbG := tbG_of (in_t4 (List.mem_of_getElem? (i := 213) (by decide +kernel))) rfl
theorem q_1033 : (Jvm.Cond.instanceMethod ({ cls := "FacesOfLinesModel", name := "line", desc := "(IIII)I" } : Jvm.MethodName)) ∈ tbG := tbG_of (in_t5 (List.mem_of_getElem? (i := 73) (by decide +kernel))) rfl
theorem q_1034 : (Jvm.Cond.selects "FacesOfLinesModel" ({ cls := "FacesOfLinesModel", name := "line", desc := "(IIII)I" } : Jvm.MethodName) ({ cls := "FacesOfLinesModel", name := "line", desc := "(IIII)I" } : Jvm.MethodName)) ∈ tbG := tbG_of (in_t5 (List.mem_of_getElem? (i := 74) (by decide +kernel))) rfl
theorem q_1035 : (Jvm.Cond.code ({ cls := "FacesOfLinesModel", name := "line", desc := "(IIII)I" } : Jvm.MethodName) prog_12_method_9_code (5 : Nat) (Option.some Jvm.ClassFile.FieldType.int)) ∈ tbG := tbG_of (in_t5 (List.mem_of_getElem? (i := 75) (by decide +kernel))) rfl
theorem q_1036 : (Jvm.Cond.methodLink "FacesOfLinesModel" (121 : Nat) ({ cls := "FacesOfLinesModel", name := "isOnSheet", desc := "(I)Z" } : Jvm.MethodName)) ∈ tbG := tbG_of (in_t5 (List.mem_of_getElem? (i := 76) (by decide +kernel))) rfl
theorem q_1037 : (Jvm.Cond.static ({ cls := "FacesOfLinesModel", name := "isOnSheet", desc := "(I)Z" } : Jvm.MethodName)) ∈ tbG := tbG_of (in_t5 (List.mem_of_getElem? (i := 77) (by decide +kernel))) rfl
theorem q_1038 : (Jvm.Cond.code ({ cls := "FacesOfLinesModel", name := "isOnSheet", desc := "(I)Z" } : Jvm.MethodName) prog_12_method_4_code (1 : Nat) (Option.some Jvm.ClassFile.FieldType.boolean)) ∈ tbG := tbG_of (in_t5 (List.mem_of_getElem? (i := 78) (by decide +kernel))) rfl
theorem q_1039 : (Jvm.Cond.methodLink "FacesOfLinesModel" (113 : Nat) ({ cls := "FacesOfLinesModel", name := "in", desc := "(III)Z" } : Jvm.MethodName)) ∈ tbG := tbG_of (in_t5 (List.mem_of_getElem? (i := 79) (by decide +kernel))) rfl
theorem q_1040 : (Jvm.Cond.static ({ cls := "FacesOfLinesModel", name := "in", desc := "(III)Z" } : Jvm.MethodName)) ∈ tbG := tbG_of (in_t5 (List.mem_of_getElem? (i := 80) (by decide +kernel))) rfl
theorem q_1041 : (Jvm.Cond.code ({ cls := "FacesOfLinesModel", name := "in", desc := "(III)Z" } : Jvm.MethodName) prog_12_method_2_code (3 : Nat) (Option.some Jvm.ClassFile.FieldType.boolean)) ∈ tbG := tbG_of (in_t5 (List.mem_of_getElem? (i := 81) (by decide +kernel))) rfl
theorem q_1042 : (Jvm.Cond.methodLink "FacesOfLinesModel" (125 : Nat) ({ cls := "FacesOfLinesModel", name := "stands", desc := "(IIIII)V" } : Jvm.MethodName)) ∈ tbG := tbG_of (in_t5 (List.mem_of_getElem? (i := 82) (by decide +kernel))) rfl
theorem q_1044 : (Jvm.Cond.instanceMethod ({ cls := "FacesOfLinesModel", name := "stands", desc := "(IIIII)V" } : Jvm.MethodName)) ∈ tbG := tbG_of (in_t5 (List.mem_of_getElem? (i := 84) (by decide +kernel))) rfl
theorem q_1045 : (Jvm.Cond.code ({ cls := "FacesOfLinesModel", name := "stands", desc := "(IIIII)V" } : Jvm.MethodName) prog_12_method_8_code (7 : Nat) (Option.none : Option Jvm.ClassFile.FieldType)) ∈ tbG := tbG_of (in_t5 (List.mem_of_getElem? (i := 85) (by decide +kernel))) rfl
theorem q_1050 : (Jvm.Cond.methodLink "FacesOfLinesModel" (129 : Nat) ({ cls := "FacesOfLinesModel", name := "isLine", desc := "(I)Z" } : Jvm.MethodName)) ∈ tbG := tbG_of (in_t5 (List.mem_of_getElem? (i := 90) (by decide +kernel))) rfl
theorem q_1052 : (Jvm.Cond.instanceMethod ({ cls := "FacesOfLinesModel", name := "isLine", desc := "(I)Z" } : Jvm.MethodName)) ∈ tbG := tbG_of (in_t5 (List.mem_of_getElem? (i := 92) (by decide +kernel))) rfl
theorem q_1053 : (Jvm.Cond.code ({ cls := "FacesOfLinesModel", name := "isLine", desc := "(I)Z" } : Jvm.MethodName) prog_12_method_3_code (2 : Nat) (Option.some Jvm.ClassFile.FieldType.boolean)) ∈ tbG := tbG_of (in_t5 (List.mem_of_getElem? (i := 93) (by decide +kernel))) rfl
theorem q_1054 : (Jvm.Cond.methodLink "FacesOfLinesModel" (132 : Nat) ({ cls := "FacesOfLinesModel", name := "drops", desc := "(I)V" } : Jvm.MethodName)) ∈ tbG := tbG_of (in_t5 (List.mem_of_getElem? (i := 94) (by decide +kernel))) rfl
theorem q_1056 : (Jvm.Cond.instanceMethod ({ cls := "FacesOfLinesModel", name := "drops", desc := "(I)V" } : Jvm.MethodName)) ∈ tbG := tbG_of (in_t5 (List.mem_of_getElem? (i := 96) (by decide +kernel))) rfl
theorem q_1057 : (Jvm.Cond.code ({ cls := "FacesOfLinesModel", name := "drops", desc := "(I)V" } : Jvm.MethodName) prog_12_method_10_code (3 : Nat) (Option.none : Option Jvm.ClassFile.FieldType)) ∈ tbG := tbG_of (in_t5 (List.mem_of_getElem? (i := 97) (by decide +kernel))) rfl
theorem q_1066 : (Jvm.Cond.methodLink "FacesOfLinesModel" (165 : Nat) ({ cls := "FacesOfLinesModel", name := "meet", desc := "(II)V" } : Jvm.MethodName)) ∈ tbG := tbG_of (in_t5 (List.mem_of_getElem? (i := 106) (by decide +kernel))) rfl
theorem q_1068 : (Jvm.Cond.instanceMethod ({ cls := "FacesOfLinesModel", name := "meet", desc := "(II)V" } : Jvm.MethodName)) ∈ tbG := tbG_of (in_t5 (List.mem_of_getElem? (i := 108) (by decide +kernel))) rfl
theorem q_1069 : (Jvm.Cond.code ({ cls := "FacesOfLinesModel", name := "meet", desc := "(II)V" } : Jvm.MethodName) prog_12_method_17_code (10 : Nat) (Option.none : Option Jvm.ClassFile.FieldType)) ∈ tbG := tbG_of (in_t5 (List.mem_of_getElem? (i := 109) (by decide +kernel))) rfl
theorem q_1070 : (Jvm.Cond.methodLink "FacesOfLinesModel" (153 : Nat) ({ cls := "FacesOfLinesModel", name := "turn", desc := "(IIII)I" } : Jvm.MethodName)) ∈ tbG := tbG_of (in_t5 (List.mem_of_getElem? (i := 110) (by decide +kernel))) rfl
theorem q_1072 : (Jvm.Cond.instanceMethod ({ cls := "FacesOfLinesModel", name := "turn", desc := "(IIII)I" } : Jvm.MethodName)) ∈ tbG := tbG_of (in_t5 (List.mem_of_getElem? (i := 112) (by decide +kernel))) rfl
theorem q_1073 : (Jvm.Cond.code ({ cls := "FacesOfLinesModel", name := "turn", desc := "(IIII)I" } : Jvm.MethodName) prog_12_method_14_code (5 : Nat) (Option.some Jvm.ClassFile.FieldType.int)) ∈ tbG := tbG_of (in_t5 (List.mem_of_getElem? (i := 113) (by decide +kernel))) rfl
theorem q_1074 : (Jvm.Cond.methodLink "FacesOfLinesModel" (157 : Nat) ({ cls := "FacesOfLinesModel", name := "meetInRow", desc := "(II)V" } : Jvm.MethodName)) ∈ tbG := tbG_of (in_t5 (List.mem_of_getElem? (i := 114) (by decide +kernel))) rfl
theorem q_1076 : (Jvm.Cond.instanceMethod ({ cls := "FacesOfLinesModel", name := "meetInRow", desc := "(II)V" } : Jvm.MethodName)) ∈ tbG := tbG_of (in_t5 (List.mem_of_getElem? (i := 116) (by decide +kernel))) rfl
theorem q_1077 : (Jvm.Cond.code ({ cls := "FacesOfLinesModel", name := "meetInRow", desc := "(II)V" } : Jvm.MethodName) prog_12_method_16_code (9 : Nat) (Option.none : Option Jvm.ClassFile.FieldType)) ∈ tbG := tbG_of (in_t5 (List.mem_of_getElem? (i := 117) (by decide +kernel))) rfl
theorem q_1078 : (Jvm.Cond.methodLink "FacesOfLinesModel" (136 : Nat) ({ cls := "FacesOfLinesModel", name := "isLess", desc := "(IIII)Z" } : Jvm.MethodName)) ∈ tbG := tbG_of (in_t5 (List.mem_of_getElem? (i := 118) (by decide +kernel))) rfl
theorem q_1079 : (Jvm.Cond.static ({ cls := "FacesOfLinesModel", name := "isLess", desc := "(IIII)Z" } : Jvm.MethodName)) ∈ tbG := tbG_of (in_t5 (List.mem_of_getElem? (i := 119) (by decide +kernel))) rfl
theorem q_1080 : (Jvm.Cond.code ({ cls := "FacesOfLinesModel", name := "isLess", desc := "(IIII)Z" } : Jvm.MethodName) prog_12_method_15_code (4 : Nat) (Option.some Jvm.ClassFile.FieldType.boolean)) ∈ tbG := tbG_of (in_t5 (List.mem_of_getElem? (i := 120) (by decide +kernel))) rfl
theorem q_1081 : (Jvm.Cond.methodLink "FacesOfLinesModel" (168 : Nat) ({ cls := "FacesOfLinesModel", name := "lowest", desc := "(JJZ)J" } : Jvm.MethodName)) ∈ tbG := tbG_of (in_t5 (List.mem_of_getElem? (i := 121) (by decide +kernel))) rfl
theorem q_1082 : (Jvm.Cond.static ({ cls := "FacesOfLinesModel", name := "lowest", desc := "(JJZ)J" } : Jvm.MethodName)) ∈ tbG := tbG_of (in_t5 (List.mem_of_getElem? (i := 122) (by decide +kernel))) rfl
theorem q_1083 : (Jvm.Cond.code ({ cls := "FacesOfLinesModel", name := "lowest", desc := "(JJZ)J" } : Jvm.MethodName) prog_12_method_18_code (7 : Nat) (Option.some Jvm.ClassFile.FieldType.long)) ∈ tbG := tbG_of (in_t5 (List.mem_of_getElem? (i := 123) (by decide +kernel))) rfl
theorem q_1084 : (Jvm.Cond.methodLink "FacesOfLinesModel" (161 : Nat) ({ cls := "FacesOfLinesModel", name := "size", desc := "(J)J" } : Jvm.MethodName)) ∈ tbG := tbG_of (in_t5 (List.mem_of_getElem? (i := 124) (by decide +kernel))) rfl
theorem q_1085 : (Jvm.Cond.static ({ cls := "FacesOfLinesModel", name := "size", desc := "(J)J" } : Jvm.MethodName)) ∈ tbG := tbG_of (in_t5 (List.mem_of_getElem? (i := 125) (by decide +kernel))) rfl
theorem q_1086 : (Jvm.Cond.code ({ cls := "FacesOfLinesModel", name := "size", desc := "(J)J" } : Jvm.MethodName) prog_12_method_6_code (2 : Nat) (Option.some Jvm.ClassFile.FieldType.long)) ∈ tbG := tbG_of (in_t5 (List.mem_of_getElem? (i := 126) (by decide +kernel))) rfl
theorem q_1087 : (Jvm.Cond.methodLink "FacesOfLinesModel" (117 : Nat) ({ cls := "FacesOfLinesModel", name := "common", desc := "(JJ)J" } : Jvm.MethodName)) ∈ tbG := tbG_of (in_t5 (List.mem_of_getElem? (i := 127) (by decide +kernel))) rfl
theorem q_1088 : (Jvm.Cond.static ({ cls := "FacesOfLinesModel", name := "common", desc := "(JJ)J" } : Jvm.MethodName)) ∈ tbG := tbG_of (in_t5 (List.mem_of_getElem? (i := 128) (by decide +kernel))) rfl
theorem q_1089 : (Jvm.Cond.code ({ cls := "FacesOfLinesModel", name := "common", desc := "(JJ)J" } : Jvm.MethodName) prog_12_method_5_code (4 : Nat) (Option.some Jvm.ClassFile.FieldType.long)) ∈ tbG := tbG_of (in_t5 (List.mem_of_getElem? (i := 129) (by decide +kernel))) rfl
theorem q_1094 : (Jvm.Cond.methodLink "FacesOfLinesModel" (211 : Nat) ({ cls := "FacesOfLinesModel", name := "tellPoints", desc := "()V" } : Jvm.MethodName)) ∈ tbG := tbG_of (in_t5 (List.mem_of_getElem? (i := 134) (by decide +kernel))) rfl
theorem q_1096 : (Jvm.Cond.instanceMethod ({ cls := "FacesOfLinesModel", name := "tellPoints", desc := "()V" } : Jvm.MethodName)) ∈ tbG := tbG_of (in_t5 (List.mem_of_getElem? (i := 136) (by decide +kernel))) rfl
theorem q_1097 : (Jvm.Cond.code ({ cls := "FacesOfLinesModel", name := "tellPoints", desc := "()V" } : Jvm.MethodName) prog_12_method_22_code (3 : Nat) (Option.none : Option Jvm.ClassFile.FieldType)) ∈ tbG := tbG_of (in_t5 (List.mem_of_getElem? (i := 137) (by decide +kernel))) rfl
theorem q_1098 : (Jvm.Cond.methodLink "FacesOfLinesModel" (183 : Nat) ({ cls := "FacesOfLinesModel", name := "addPoint", desc := "(JJJ)V" } : Jvm.MethodName)) ∈ tbG := tbG_of (in_t5 (List.mem_of_getElem? (i := 138) (by decide +kernel))) rfl
theorem q_1100 : (Jvm.Cond.instanceMethod ({ cls := "FacesOfLinesModel", name := "addPoint", desc := "(JJJ)V" } : Jvm.MethodName)) ∈ tbG := tbG_of (in_t5 (List.mem_of_getElem? (i := 140) (by decide +kernel))) rfl
theorem q_1101 : (Jvm.Cond.code ({ cls := "FacesOfLinesModel", name := "addPoint", desc := "(JJJ)V" } : Jvm.MethodName) prog_12_method_21_code (17 : Nat) (Option.none : Option Jvm.ClassFile.FieldType)) ∈ tbG := tbG_of (in_t5 (List.mem_of_getElem? (i := 141) (by decide +kernel))) rfl
theorem q_1102 : (Jvm.Cond.methodLink "FacesOfLinesModel" (179 : Nat) ({ cls := "FacesOfLinesModel", name := "pointAgainst", desc := "(IJJJJ)I" } : Jvm.MethodName)) ∈ tbG := tbG_of (in_t5 (List.mem_of_getElem? (i := 142) (by decide +kernel))) rfl
theorem q_1104 : (Jvm.Cond.instanceMethod ({ cls := "FacesOfLinesModel", name := "pointAgainst", desc := "(IJJJJ)I" } : Jvm.MethodName)) ∈ tbG := tbG_of (in_t5 (List.mem_of_getElem? (i := 144) (by decide +kernel))) rfl
theorem q_1105 : (Jvm.Cond.code ({ cls := "FacesOfLinesModel", name := "pointAgainst", desc := "(IJJJJ)I" } : Jvm.MethodName) prog_12_method_20_code (11 : Nat) (Option.some Jvm.ClassFile.FieldType.int)) ∈ tbG := tbG_of (in_t5 (List.mem_of_getElem? (i := 145) (by decide +kernel))) rfl
theorem q_1106 : (Jvm.Cond.methodLink "FacesOfLinesModel" (172 : Nat) ({ cls := "FacesOfLinesModel", name := "against", desc := "(JJJJ)I" } : Jvm.MethodName)) ∈ tbG := tbG_of (in_t5 (List.mem_of_getElem? (i := 146) (by decide +kernel))) rfl
theorem q_1107 : (Jvm.Cond.static ({ cls := "FacesOfLinesModel", name := "against", desc := "(JJJJ)I" } : Jvm.MethodName)) ∈ tbG := tbG_of (in_t5 (List.mem_of_getElem? (i := 147) (by decide +kernel))) rfl
theorem q_1108 : (Jvm.Cond.code ({ cls := "FacesOfLinesModel", name := "against", desc := "(JJJJ)I" } : Jvm.MethodName) prog_12_method_7_code (10 : Nat) (Option.some Jvm.ClassFile.FieldType.int)) ∈ tbG := tbG_of (in_t5 (List.mem_of_getElem? (i := 148) (by decide +kernel))) rfl
theorem q_1109 : (Jvm.Cond.methodLink "FacesOfLinesModel" (207 : Nat) ({ cls := "FacesOfLinesModel", name := "linesAt", desc := "(I)I" } : Jvm.MethodName)) ∈ tbG := tbG_of (in_t5 (List.mem_of_getElem? (i := 149) (by decide +kernel))) rfl
theorem q_1111 : (Jvm.Cond.instanceMethod ({ cls := "FacesOfLinesModel", name := "linesAt", desc := "(I)I" } : Jvm.MethodName)) ∈ tbG := tbG_of (in_t5 (List.mem_of_getElem? (i := 151) (by decide +kernel))) rfl
theorem q_1112 : (Jvm.Cond.code ({ cls := "FacesOfLinesModel", name := "linesAt", desc := "(I)I" } : Jvm.MethodName) prog_12_method_25_code (2 : Nat) (Option.some Jvm.ClassFile.FieldType.int)) ∈ tbG := tbG_of (in_t5 (List.mem_of_getElem? (i := 152) (by decide +kernel))) rfl
theorem q_1113 : (Jvm.Cond.methodLink "FacesOfLinesModel" (200 : Nat) ({ cls := "FacesOfLinesModel", name := "linesOn", desc := "(JJJJ)I" } : Jvm.MethodName)) ∈ tbG := tbG_of (in_t5 (List.mem_of_getElem? (i := 153) (by decide +kernel))) rfl
theorem q_1115 : (Jvm.Cond.instanceMethod ({ cls := "FacesOfLinesModel", name := "linesOn", desc := "(JJJJ)I" } : Jvm.MethodName)) ∈ tbG := tbG_of (in_t5 (List.mem_of_getElem? (i := 155) (by decide +kernel))) rfl
theorem q_1116 : (Jvm.Cond.code ({ cls := "FacesOfLinesModel", name := "linesOn", desc := "(JJJJ)I" } : Jvm.MethodName) prog_12_method_24_code (11 : Nat) (Option.some Jvm.ClassFile.FieldType.int)) ∈ tbG := tbG_of (in_t5 (List.mem_of_getElem? (i := 156) (by decide +kernel))) rfl
theorem q_1117 : (Jvm.Cond.methodLink "FacesOfLinesModel" (196 : Nat) ({ cls := "FacesOfLinesModel", name := "isOn", desc := "(IJJJJ)Z" } : Jvm.MethodName)) ∈ tbG := tbG_of (in_t5 (List.mem_of_getElem? (i := 157) (by decide +kernel))) rfl
theorem q_1119 : (Jvm.Cond.instanceMethod ({ cls := "FacesOfLinesModel", name := "isOn", desc := "(IJJJJ)Z" } : Jvm.MethodName)) ∈ tbG := tbG_of (in_t5 (List.mem_of_getElem? (i := 159) (by decide +kernel))) rfl
theorem q_1120 : (Jvm.Cond.code ({ cls := "FacesOfLinesModel", name := "isOn", desc := "(IJJJJ)Z" } : Jvm.MethodName) prog_12_method_23_code (14 : Nat) (Option.some Jvm.ClassFile.FieldType.boolean)) ∈ tbG := tbG_of (in_t5 (List.mem_of_getElem? (i := 160) (by decide +kernel))) rfl
theorem q_1121 : (Jvm.Cond.methodLink "FacesOfLinesModel" (187 : Nat) ({ cls := "java/lang/Math", name := "min", desc := "(II)I" } : Jvm.MethodName)) ∈ tbG := tbG_of (in_t5 (List.mem_of_getElem? (i := 161) (by decide +kernel))) rfl
theorem q_1122 : (Jvm.Cond.methodLink "FacesOfLinesModel" (193 : Nat) ({ cls := "java/lang/Math", name := "max", desc := "(II)I" } : Jvm.MethodName)) ∈ tbG := tbG_of (in_t5 (List.mem_of_getElem? (i := 162) (by decide +kernel))) rfl
theorem q_1123 : (Jvm.Cond.methodLink "FacesOfLinesModel" (214 : Nat) ({ cls := "FacesOfLinesModel", name := "endsAt", desc := "(I)I" } : Jvm.MethodName)) ∈ tbG := tbG_of (in_t5 (List.mem_of_getElem? (i := 163) (by decide +kernel))) rfl
theorem q_1125 : (Jvm.Cond.instanceMethod ({ cls := "FacesOfLinesModel", name := "endsAt", desc := "(I)I" } : Jvm.MethodName)) ∈ tbG := tbG_of (in_t5 (List.mem_of_getElem? (i := 165) (by decide +kernel))) rfl
theorem q_1126 : (Jvm.Cond.code ({ cls := "FacesOfLinesModel", name := "endsAt", desc := "(I)I" } : Jvm.MethodName) prog_12_method_28_code (4 : Nat) (Option.some Jvm.ClassFile.FieldType.int)) ∈ tbG := tbG_of (in_t5 (List.mem_of_getElem? (i := 166) (by decide +kernel))) rfl
theorem q_1127 : (Jvm.Cond.methodLink "FacesOfLinesModel" (217 : Nat) ({ cls := "FacesOfLinesModel", name := "tellPieces", desc := "()I" } : Jvm.MethodName)) ∈ tbG := tbG_of (in_t5 (List.mem_of_getElem? (i := 167) (by decide +kernel))) rfl
theorem q_1129 : (Jvm.Cond.instanceMethod ({ cls := "FacesOfLinesModel", name := "tellPieces", desc := "()I" } : Jvm.MethodName)) ∈ tbG := tbG_of (in_t5 (List.mem_of_getElem? (i := 169) (by decide +kernel))) rfl
theorem q_1130 : (Jvm.Cond.code ({ cls := "FacesOfLinesModel", name := "tellPieces", desc := "()I" } : Jvm.MethodName) prog_12_method_26_code (7 : Nat) (Option.some Jvm.ClassFile.FieldType.int)) ∈ tbG := tbG_of (in_t5 (List.mem_of_getElem? (i := 170) (by decide +kernel))) rfl
theorem q_1131 : (Jvm.Cond.methodLink "FacesOfLinesModel" (203 : Nat) ({ cls := "FacesOfLinesModel", name := "isPiece", desc := "(II)Z" } : Jvm.MethodName)) ∈ tbG := tbG_of (in_t5 (List.mem_of_getElem? (i := 171) (by decide +kernel))) rfl
theorem q_1133 : (Jvm.Cond.instanceMethod ({ cls := "FacesOfLinesModel", name := "isPiece", desc := "(II)Z" } : Jvm.MethodName)) ∈ tbG := tbG_of (in_t5 (List.mem_of_getElem? (i := 173) (by decide +kernel))) rfl
theorem q_1134 : (Jvm.Cond.code ({ cls := "FacesOfLinesModel", name := "isPiece", desc := "(II)Z" } : Jvm.MethodName) prog_12_method_27_code (5 : Nat) (Option.some Jvm.ClassFile.FieldType.boolean)) ∈ tbG := tbG_of (in_t5 (List.mem_of_getElem? (i := 174) (by decide +kernel))) rfl
theorem q_1139 : (Jvm.Cond.methodLink "FacesOfLinesModel" (230 : Nat) ({ cls := "FacesOfLinesModel", name := "isUpright", desc := "(I)Z" } : Jvm.MethodName)) ∈ tbG := tbG_of (in_t5 (List.mem_of_getElem? (i := 179) (by decide +kernel))) rfl
theorem q_1141 : (Jvm.Cond.instanceMethod ({ cls := "FacesOfLinesModel", name := "isUpright", desc := "(I)Z" } : Jvm.MethodName)) ∈ tbG := tbG_of (in_t5 (List.mem_of_getElem? (i := 181) (by decide +kernel))) rfl
theorem q_1142 : (Jvm.Cond.code ({ cls := "FacesOfLinesModel", name := "isUpright", desc := "(I)Z" } : Jvm.MethodName) prog_12_method_13_code (2 : Nat) (Option.some Jvm.ClassFile.FieldType.boolean)) ∈ tbG := tbG_of (in_t5 (List.mem_of_getElem? (i := 182) (by decide +kernel))) rfl
theorem q_1143 : (Jvm.Cond.methodLink "FacesOfLinesModel" (233 : Nat) ({ cls := "FacesOfLinesModel", name := "pointsOn", desc := "(I)I" } : Jvm.MethodName)) ∈ tbG := tbG_of (in_t5 (List.mem_of_getElem? (i := 183) (by decide +kernel))) rfl
theorem q_1145 : (Jvm.Cond.instanceMethod ({ cls := "FacesOfLinesModel", name := "pointsOn", desc := "(I)I" } : Jvm.MethodName)) ∈ tbG := tbG_of (in_t5 (List.mem_of_getElem? (i := 185) (by decide +kernel))) rfl
theorem q_1146 : (Jvm.Cond.code ({ cls := "FacesOfLinesModel", name := "pointsOn", desc := "(I)I" } : Jvm.MethodName) prog_12_method_29_code (4 : Nat) (Option.some Jvm.ClassFile.FieldType.int)) ∈ tbG := tbG_of (in_t5 (List.mem_of_getElem? (i := 186) (by decide +kernel))) rfl
theorem q_1147 : (Jvm.Cond.methodLink "FacesOfLinesModel" (236 : Nat) ({ cls := "FacesOfLinesModel", name := "tellHulls", desc := "()I" } : Jvm.MethodName)) ∈ tbG := tbG_of (in_t5 (List.mem_of_getElem? (i := 187) (by decide +kernel))) rfl
theorem q_1149 : (Jvm.Cond.instanceMethod ({ cls := "FacesOfLinesModel", name := "tellHulls", desc := "()I" } : Jvm.MethodName)) ∈ tbG := tbG_of (in_t5 (List.mem_of_getElem? (i := 189) (by decide +kernel))) rfl
theorem q_1150 : (Jvm.Cond.code ({ cls := "FacesOfLinesModel", name := "tellHulls", desc := "()I" } : Jvm.MethodName) prog_12_method_33_code (6 : Nat) (Option.some Jvm.ClassFile.FieldType.int)) ∈ tbG := tbG_of (in_t5 (List.mem_of_getElem? (i := 190) (by decide +kernel))) rfl
theorem q_1151 : (Jvm.Cond.methodLink "FacesOfLinesModel" (224 : Nat) ({ cls := "FacesOfLinesModel", name := "placeAt", desc := "(II)I" } : Jvm.MethodName)) ∈ tbG := tbG_of (in_t5 (List.mem_of_getElem? (i := 191) (by decide +kernel))) rfl
theorem q_1153 : (Jvm.Cond.instanceMethod ({ cls := "FacesOfLinesModel", name := "placeAt", desc := "(II)I" } : Jvm.MethodName)) ∈ tbG := tbG_of (in_t5 (List.mem_of_getElem? (i := 193) (by decide +kernel))) rfl
theorem q_1154 : (Jvm.Cond.code ({ cls := "FacesOfLinesModel", name := "placeAt", desc := "(II)I" } : Jvm.MethodName) prog_12_method_31_code (4 : Nat) (Option.some Jvm.ClassFile.FieldType.int)) ∈ tbG := tbG_of (in_t5 (List.mem_of_getElem? (i := 194) (by decide +kernel))) rfl
theorem q_1155 : (Jvm.Cond.methodLink "FacesOfLinesModel" (227 : Nat) ({ cls := "FacesOfLinesModel", name := "isSide", desc := "(II)Z" } : Jvm.MethodName)) ∈ tbG := tbG_of (in_t5 (List.mem_of_getElem? (i := 195) (by decide +kernel))) rfl
theorem q_1157 : (Jvm.Cond.instanceMethod ({ cls := "FacesOfLinesModel", name := "isSide", desc := "(II)Z" } : Jvm.MethodName)) ∈ tbG := tbG_of (in_t5 (List.mem_of_getElem? (i := 197) (by decide +kernel))) rfl
theorem q_1158 : (Jvm.Cond.code ({ cls := "FacesOfLinesModel", name := "isSide", desc := "(II)Z" } : Jvm.MethodName) prog_12_method_32_code (7 : Nat) (Option.some Jvm.ClassFile.FieldType.boolean)) ∈ tbG := tbG_of (in_t5 (List.mem_of_getElem? (i := 198) (by decide +kernel))) rfl
theorem q_1167 : (Jvm.Cond.methodLink "FacesOfLinesModel" (258 : Nat) ({ cls := "FacesOfLinesModel", name := "tellOrder", desc := "(JJI)V" } : Jvm.MethodName)) ∈ tbG := tbG_of (in_t5 (List.mem_of_getElem? (i := 207) (by decide +kernel))) rfl
theorem q_1169 : (Jvm.Cond.instanceMethod ({ cls := "FacesOfLinesModel", name := "tellOrder", desc := "(JJI)V" } : Jvm.MethodName)) ∈ tbG := tbG_of (in_t5 (List.mem_of_getElem? (i := 209) (by decide +kernel))) rfl
theorem q_1170 : (Jvm.Cond.code ({ cls := "FacesOfLinesModel", name := "tellOrder", desc := "(JJI)V" } : Jvm.MethodName) prog_12_method_40_code (8 : Nat) (Option.none : Option Jvm.ClassFile.FieldType)) ∈ tbG := tbG_of (in_t5 (List.mem_of_getElem? (i := 210) (by decide +kernel))) rfl
theorem q_1171 : (Jvm.Cond.methodLink "FacesOfLinesModel" (250 : Nat) ({ cls := "FacesOfLinesModel", name := "isThere", desc := "(IJJ)Z" } : Jvm.MethodName)) ∈ tbG := tbG_of (in_t5 (List.mem_of_getElem? (i := 211) (by decide +kernel))) rfl
theorem q_1173 : (Jvm.Cond.instanceMethod ({ cls := "FacesOfLinesModel", name := "isThere", desc := "(IJJ)Z" } : Jvm.MethodName)) ∈ tbG := tbG_of (in_t5 (List.mem_of_getElem? (i := 213) (by decide +kernel))) rfl
theorem q_1174 : (Jvm.Cond.code ({ cls := "FacesOfLinesModel", name := "isThere", desc := "(IJJ)Z" } : Jvm.MethodName) prog_12_method_38_code (6 : Nat) (Option.some Jvm.ClassFile.FieldType.boolean)) ∈ tbG := tbG_of (in_t5 (List.mem_of_getElem? (i := 214) (by decide +kernel))) rfl
theorem q_1175 : (Jvm.Cond.methodLink "FacesOfLinesModel" (254 : Nat) ({ cls := "FacesOfLinesModel", name := "isAhead", desc := "(IIJJ)Z" } : Jvm.MethodName)) ∈ tbG := tbG_of (in_t5 (List.mem_of_getElem? (i := 215) (by decide +kernel))) rfl
theorem q_1177 : (Jvm.Cond.instanceMethod ({ cls := "FacesOfLinesModel", name := "isAhead", desc := "(IIJJ)Z" } : Jvm.MethodName)) ∈ tbG := tbG_of (in_t5 (List.mem_of_getElem? (i := 217) (by decide +kernel))) rfl
theorem q_1178 : (Jvm.Cond.code ({ cls := "FacesOfLinesModel", name := "isAhead", desc := "(IIJJ)Z" } : Jvm.MethodName) prog_12_method_39_code (8 : Nat) (Option.some Jvm.ClassFile.FieldType.boolean)) ∈ tbG := tbG_of (in_t5 (List.mem_of_getElem? (i := 218) (by decide +kernel))) rfl
theorem q_1179 : (Jvm.Cond.methodLink "FacesOfLinesModel" (239 : Nat) ({ cls := "FacesOfLinesModel", name := "yAbove", desc := "(IJJ)J" } : Jvm.MethodName)) ∈ tbG := tbG_of (in_t5 (List.mem_of_getElem? (i := 219) (by decide +kernel))) rfl
theorem q_1181 : (Jvm.Cond.instanceMethod ({ cls := "FacesOfLinesModel", name := "yAbove", desc := "(IJJ)J" } : Jvm.MethodName)) ∈ tbG := tbG_of (in_t5 (List.mem_of_getElem? (i := 221) (by decide +kernel))) rfl
theorem q_1182 : (Jvm.Cond.code ({ cls := "FacesOfLinesModel", name := "yAbove", desc := "(IJJ)J" } : Jvm.MethodName) prog_12_method_36_code (8 : Nat) (Option.some Jvm.ClassFile.FieldType.long)) ∈ tbG := tbG_of (in_t5 (List.mem_of_getElem? (i := 222) (by decide +kernel))) rfl
theorem q_1183 : (Jvm.Cond.methodLink "FacesOfLinesModel" (243 : Nat) ({ cls := "FacesOfLinesModel", name := "yBelow", desc := "(IJ)J" } : Jvm.MethodName)) ∈ tbG := tbG_of (in_t5 (List.mem_of_getElem? (i := 223) (by decide +kernel))) rfl
theorem q_1185 : (Jvm.Cond.instanceMethod ({ cls := "FacesOfLinesModel", name := "yBelow", desc := "(IJ)J" } : Jvm.MethodName)) ∈ tbG := tbG_of (in_t5 (List.mem_of_getElem? (i := 225) (by decide +kernel))) rfl
theorem q_1186 : (Jvm.Cond.code ({ cls := "FacesOfLinesModel", name := "yBelow", desc := "(IJ)J" } : Jvm.MethodName) prog_12_method_37_code (4 : Nat) (Option.some Jvm.ClassFile.FieldType.long)) ∈ tbG := tbG_of (in_t5 (List.mem_of_getElem? (i := 226) (by decide +kernel))) rfl
theorem q_1191 : (Jvm.Cond.methodLink "FacesOfLinesModel" (327 : Nat) ({ cls := "FacesOfLinesModel", name := "tellSheet", desc := "()V" } : Jvm.MethodName)) ∈ tbG := tbG_of (in_t5 (List.mem_of_getElem? (i := 231) (by decide +kernel))) rfl
theorem q_1193 : (Jvm.Cond.instanceMethod ({ cls := "FacesOfLinesModel", name := "tellSheet", desc := "()V" } : Jvm.MethodName)) ∈ tbG := tbG_of (in_t5 (List.mem_of_getElem? (i := 233) (by decide +kernel))) rfl
theorem q_1194 : (Jvm.Cond.code ({ cls := "FacesOfLinesModel", name := "tellSheet", desc := "()V" } : Jvm.MethodName) prog_12_method_46_code (2 : Nat) (Option.none : Option Jvm.ClassFile.FieldType)) ∈ tbG := tbG_of (in_t5 (List.mem_of_getElem? (i := 234) (by decide +kernel))) rfl
theorem q_1195 : (Jvm.Cond.methodLink "FacesOfLinesModel" (274 : Nat) ({ cls := "FacesOfLinesModel", name := "addCell", desc := "(III)V" } : Jvm.MethodName)) ∈ tbG := tbG_of (in_t5 (List.mem_of_getElem? (i := 235) (by decide +kernel))) rfl
theorem q_1197 : (Jvm.Cond.instanceMethod ({ cls := "FacesOfLinesModel", name := "addCell", desc := "(III)V" } : Jvm.MethodName)) ∈ tbG := tbG_of (in_t5 (List.mem_of_getElem? (i := 237) (by decide +kernel))) rfl
theorem q_1198 : (Jvm.Cond.code ({ cls := "FacesOfLinesModel", name := "addCell", desc := "(III)V" } : Jvm.MethodName) prog_12_method_44_code (4 : Nat) (Option.none : Option Jvm.ClassFile.FieldType)) ∈ tbG := tbG_of (in_t5 (List.mem_of_getElem? (i := 238) (by decide +kernel))) rfl
theorem q_1199 : (Jvm.Cond.methodLink "FacesOfLinesModel" (281 : Nat) ({ cls := "FacesOfLinesModel", name := "cut", desc := "(I)V" } : Jvm.MethodName)) ∈ tbG := tbG_of (in_t5 (List.mem_of_getElem? (i := 239) (by decide +kernel))) rfl
theorem q_1201 : (Jvm.Cond.instanceMethod ({ cls := "FacesOfLinesModel", name := "cut", desc := "(I)V" } : Jvm.MethodName)) ∈ tbG := tbG_of (in_t6 (List.mem_of_getElem? (i := 1) (by decide +kernel))) rfl
theorem q_1202 : (Jvm.Cond.code ({ cls := "FacesOfLinesModel", name := "cut", desc := "(I)V" } : Jvm.MethodName) prog_12_method_45_code (7 : Nat) (Option.none : Option Jvm.ClassFile.FieldType)) ∈ tbG := tbG_of (in_t6 (List.mem_of_getElem? (i := 2) (by decide +kernel))) rfl
theorem q_1203 : (Jvm.Cond.methodLink "FacesOfLinesModel" (270 : Nat) ({ cls := "FacesOfLinesModel", name := "againstThrough", desc := "(III)I" } : Jvm.MethodName)) ∈ tbG := tbG_of (in_t6 (List.mem_of_getElem? (i := 3) (by decide +kernel))) rfl
theorem q_1205 : (Jvm.Cond.instanceMethod ({ cls := "FacesOfLinesModel", name := "againstThrough", desc := "(III)I" } : Jvm.MethodName)) ∈ tbG := tbG_of (in_t6 (List.mem_of_getElem? (i := 5) (by decide +kernel))) rfl
theorem q_1206 : (Jvm.Cond.code ({ cls := "FacesOfLinesModel", name := "againstThrough", desc := "(III)I" } : Jvm.MethodName) prog_12_method_43_code (9 : Nat) (Option.some Jvm.ClassFile.FieldType.int)) ∈ tbG := tbG_of (in_t6 (List.mem_of_getElem? (i := 6) (by decide +kernel))) rfl
theorem q_1207 : (Jvm.Cond.methodLink "FacesOfLinesModel" (284 : Nat) ({ cls := "FacesOfLinesModel", name := "joinCells", desc := "()V" } : Jvm.MethodName)) ∈ tbG := tbG_of (in_t6 (List.mem_of_getElem? (i := 7) (by decide +kernel))) rfl
theorem q_1209 : (Jvm.Cond.instanceMethod ({ cls := "FacesOfLinesModel", name := "joinCells", desc := "()V" } : Jvm.MethodName)) ∈ tbG := tbG_of (in_t6 (List.mem_of_getElem? (i := 9) (by decide +kernel))) rfl
theorem q_1210 : (Jvm.Cond.code ({ cls := "FacesOfLinesModel", name := "joinCells", desc := "()V" } : Jvm.MethodName) prog_12_method_53_code (7 : Nat) (Option.none : Option Jvm.ClassFile.FieldType)) ∈ tbG := tbG_of (in_t6 (List.mem_of_getElem? (i := 10) (by decide +kernel))) rfl
theorem q_1211 : (Jvm.Cond.methodLink "FacesOfLinesModel" (309 : Nat) ({ cls := "FacesOfLinesModel", name := "wide", desc := "()V" } : Jvm.MethodName)) ∈ tbG := tbG_of (in_t6 (List.mem_of_getElem? (i := 11) (by decide +kernel))) rfl
theorem q_1213 : (Jvm.Cond.instanceMethod ({ cls := "FacesOfLinesModel", name := "wide", desc := "()V" } : Jvm.MethodName)) ∈ tbG := tbG_of (in_t6 (List.mem_of_getElem? (i := 13) (by decide +kernel))) rfl
theorem q_1214 : (Jvm.Cond.code ({ cls := "FacesOfLinesModel", name := "wide", desc := "()V" } : Jvm.MethodName) prog_12_method_48_code (1 : Nat) (Option.none : Option Jvm.ClassFile.FieldType)) ∈ tbG := tbG_of (in_t6 (List.mem_of_getElem? (i := 14) (by decide +kernel))) rfl
theorem q_1215 : (Jvm.Cond.constantLong "FacesOfLinesModel" (302 : Nat) (-100000 : Int64)) ∈ tbG := tbG_of (in_t6 (List.mem_of_getElem? (i := 15) (by decide +kernel))) rfl
theorem q_1216 : (Jvm.Cond.constantLong "FacesOfLinesModel" (304 : Nat) (100000 : Int64)) ∈ tbG := tbG_of (in_t6 (List.mem_of_getElem? (i := 16) (by decide +kernel))) rfl
theorem q_1217 : (Jvm.Cond.methodLink "FacesOfLinesModel" (312 : Nat) ({ cls := "FacesOfLinesModel", name := "narrow", desc := "(IJJ)V" } : Jvm.MethodName)) ∈ tbG := tbG_of (in_t6 (List.mem_of_getElem? (i := 17) (by decide +kernel))) rfl
theorem q_1219 : (Jvm.Cond.instanceMethod ({ cls := "FacesOfLinesModel", name := "narrow", desc := "(IJJ)V" } : Jvm.MethodName)) ∈ tbG := tbG_of (in_t6 (List.mem_of_getElem? (i := 19) (by decide +kernel))) rfl
theorem q_1220 : (Jvm.Cond.code ({ cls := "FacesOfLinesModel", name := "narrow", desc := "(IJJ)V" } : Jvm.MethodName) prog_12_method_47_code (8 : Nat) (Option.none : Option Jvm.ClassFile.FieldType)) ∈ tbG := tbG_of (in_t6 (List.mem_of_getElem? (i := 20) (by decide +kernel))) rfl
theorem q_1221 : (Jvm.Cond.methodLink "FacesOfLinesModel" (287 : Nat) ({ cls := "FacesOfLinesModel", name := "leastOf", desc := "(I)I" } : Jvm.MethodName)) ∈ tbG := tbG_of (in_t6 (List.mem_of_getElem? (i := 21) (by decide +kernel))) rfl
theorem q_1222 : (Jvm.Cond.static ({ cls := "FacesOfLinesModel", name := "leastOf", desc := "(I)I" } : Jvm.MethodName)) ∈ tbG := tbG_of (in_t6 (List.mem_of_getElem? (i := 22) (by decide +kernel))) rfl
theorem q_1223 : (Jvm.Cond.code ({ cls := "FacesOfLinesModel", name := "leastOf", desc := "(I)I" } : Jvm.MethodName) prog_12_method_42_code (1 : Nat) (Option.some Jvm.ClassFile.FieldType.int)) ∈ tbG := tbG_of (in_t6 (List.mem_of_getElem? (i := 23) (by decide +kernel))) rfl
theorem q_1224 : (Jvm.Cond.methodLink "FacesOfLinesModel" (262 : Nat) ({ cls := "java/lang/Integer", name := "numberOfTrailingZeros", desc := "(I)I" } : Jvm.MethodName)) ∈ tbG := tbG_of (in_t6 (List.mem_of_getElem? (i := 24) (by decide +kernel))) rfl
theorem q_1225 : (Jvm.Cond.static ({ cls := "java/lang/Integer", name := "numberOfTrailingZeros", desc := "(I)I" } : Jvm.MethodName)) ∈ tbG := tbG_of (in_t6 (List.mem_of_getElem? (i := 25) (by decide +kernel))) rfl
theorem q_1226 : (Jvm.Cond.code ({ cls := "java/lang/Integer", name := "numberOfTrailingZeros", desc := "(I)I" } : Jvm.MethodName) prog_13_method_48_code (2 : Nat) (Option.some Jvm.ClassFile.FieldType.int)) ∈ tbG := tbG_of (in_t6 (List.mem_of_getElem? (i := 26) (by decide +kernel))) rfl
theorem q_1227 : (Jvm.Cond.constant "java/lang/Integer" (264 : Nat) (65536 : Int32)) ∈ tbG := tbG_of (in_t6 (List.mem_of_getElem? (i := 27) (by decide +kernel))) rfl
theorem q_1228 : (Jvm.Cond.methodLink "FacesOfLinesModel" (316 : Nat) ({ cls := "FacesOfLinesModel", name := "isMoreThanOne", desc := "()Z" } : Jvm.MethodName)) ∈ tbG := tbG_of (in_t6 (List.mem_of_getElem? (i := 28) (by decide +kernel))) rfl
theorem q_1230 : (Jvm.Cond.instanceMethod ({ cls := "FacesOfLinesModel", name := "isMoreThanOne", desc := "()Z" } : Jvm.MethodName)) ∈ tbG := tbG_of (in_t6 (List.mem_of_getElem? (i := 30) (by decide +kernel))) rfl
theorem q_1231 : (Jvm.Cond.code ({ cls := "FacesOfLinesModel", name := "isMoreThanOne", desc := "()Z" } : Jvm.MethodName) prog_12_method_49_code (1 : Nat) (Option.some Jvm.ClassFile.FieldType.boolean)) ∈ tbG := tbG_of (in_t6 (List.mem_of_getElem? (i := 31) (by decide +kernel))) rfl
theorem q_1232 : (Jvm.Cond.methodLink "FacesOfLinesModel" (320 : Nat) ({ cls := "FacesOfLinesModel", name := "isOpen", desc := "(JJ)Z" } : Jvm.MethodName)) ∈ tbG := tbG_of (in_t6 (List.mem_of_getElem? (i := 32) (by decide +kernel))) rfl
theorem q_1234 : (Jvm.Cond.instanceMethod ({ cls := "FacesOfLinesModel", name := "isOpen", desc := "(JJ)Z" } : Jvm.MethodName)) ∈ tbG := tbG_of (in_t6 (List.mem_of_getElem? (i := 34) (by decide +kernel))) rfl
theorem q_1235 : (Jvm.Cond.code ({ cls := "FacesOfLinesModel", name := "isOpen", desc := "(JJ)Z" } : Jvm.MethodName) prog_12_method_52_code (11 : Nat) (Option.some Jvm.ClassFile.FieldType.boolean)) ∈ tbG := tbG_of (in_t6 (List.mem_of_getElem? (i := 35) (by decide +kernel))) rfl
theorem q_1236 : (Jvm.Cond.methodLink "FacesOfLinesModel" (306 : Nat) ({ cls := "FacesOfLinesModel", name := "isUprightAt", desc := "(IJJ)Z" } : Jvm.MethodName)) ∈ tbG := tbG_of (in_t6 (List.mem_of_getElem? (i := 36) (by decide +kernel))) rfl
theorem q_1238 : (Jvm.Cond.instanceMethod ({ cls := "FacesOfLinesModel", name := "isUprightAt", desc := "(IJJ)Z" } : Jvm.MethodName)) ∈ tbG := tbG_of (in_t6 (List.mem_of_getElem? (i := 38) (by decide +kernel))) rfl
theorem q_1239 : (Jvm.Cond.code ({ cls := "FacesOfLinesModel", name := "isUprightAt", desc := "(IJJ)Z" } : Jvm.MethodName) prog_12_method_50_code (6 : Nat) (Option.some Jvm.ClassFile.FieldType.boolean)) ∈ tbG := tbG_of (in_t6 (List.mem_of_getElem? (i := 39) (by decide +kernel))) rfl
theorem q_1248 : (Jvm.Cond.methodLink "FacesOfLinesModel" (342 : Nat) ({ cls := "FacesOfLinesModel", name := "borders", desc := "(I)I" } : Jvm.MethodName)) ∈ tbG := tbG_of (in_t6 (List.mem_of_getElem? (i := 48) (by decide +kernel))) rfl
theorem q_1250 : (Jvm.Cond.instanceMethod ({ cls := "FacesOfLinesModel", name := "borders", desc := "(I)I" } : Jvm.MethodName)) ∈ tbG := tbG_of (in_t6 (List.mem_of_getElem? (i := 50) (by decide +kernel))) rfl
theorem q_1251 : (Jvm.Cond.code ({ cls := "FacesOfLinesModel", name := "borders", desc := "(I)I" } : Jvm.MethodName) prog_12_method_57_code (4 : Nat) (Option.some Jvm.ClassFile.FieldType.int)) ∈ tbG := tbG_of (in_t6 (List.mem_of_getElem? (i := 51) (by decide +kernel))) rfl
theorem q_1252 : (Jvm.Cond.methodLink "FacesOfLinesModel" (333 : Nat) ({ cls := "FacesOfLinesModel", name := "bordersAt", desc := "(II)I" } : Jvm.MethodName)) ∈ tbG := tbG_of (in_t6 (List.mem_of_getElem? (i := 52) (by decide +kernel))) rfl
theorem q_1254 : (Jvm.Cond.instanceMethod ({ cls := "FacesOfLinesModel", name := "bordersAt", desc := "(II)I" } : Jvm.MethodName)) ∈ tbG := tbG_of (in_t6 (List.mem_of_getElem? (i := 54) (by decide +kernel))) rfl
theorem q_1255 : (Jvm.Cond.code ({ cls := "FacesOfLinesModel", name := "bordersAt", desc := "(II)I" } : Jvm.MethodName) prog_12_method_56_code (5 : Nat) (Option.some Jvm.ClassFile.FieldType.int)) ∈ tbG := tbG_of (in_t6 (List.mem_of_getElem? (i := 55) (by decide +kernel))) rfl
theorem q_1256 : (Jvm.Cond.methodLink "FacesOfLinesModel" (330 : Nat) ({ cls := "FacesOfLinesModel", name := "hasMore", desc := "(I)Z" } : Jvm.MethodName)) ∈ tbG := tbG_of (in_t6 (List.mem_of_getElem? (i := 56) (by decide +kernel))) rfl
theorem q_1258 : (Jvm.Cond.instanceMethod ({ cls := "FacesOfLinesModel", name := "hasMore", desc := "(I)Z" } : Jvm.MethodName)) ∈ tbG := tbG_of (in_t6 (List.mem_of_getElem? (i := 58) (by decide +kernel))) rfl
theorem q_1259 : (Jvm.Cond.code ({ cls := "FacesOfLinesModel", name := "hasMore", desc := "(I)Z" } : Jvm.MethodName) prog_12_method_51_code (4 : Nat) (Option.some Jvm.ClassFile.FieldType.boolean)) ∈ tbG := tbG_of (in_t6 (List.mem_of_getElem? (i := 59) (by decide +kernel))) rfl
theorem q_1260 : (Jvm.Cond.methodLink "FacesOfLinesModel" (345 : Nat) ({ cls := "FacesOfLinesModel", name := "nextTo", desc := "(I)I" } : Jvm.MethodName)) ∈ tbG := tbG_of (in_t6 (List.mem_of_getElem? (i := 60) (by decide +kernel))) rfl
theorem q_1262 : (Jvm.Cond.instanceMethod ({ cls := "FacesOfLinesModel", name := "nextTo", desc := "(I)I" } : Jvm.MethodName)) ∈ tbG := tbG_of (in_t6 (List.mem_of_getElem? (i := 62) (by decide +kernel))) rfl
theorem q_1263 : (Jvm.Cond.code ({ cls := "FacesOfLinesModel", name := "nextTo", desc := "(I)I" } : Jvm.MethodName) prog_12_method_60_code (4 : Nat) (Option.some Jvm.ClassFile.FieldType.int)) ∈ tbG := tbG_of (in_t6 (List.mem_of_getElem? (i := 63) (by decide +kernel))) rfl
theorem q_1264 : (Jvm.Cond.methodLink "FacesOfLinesModel" (339 : Nat) ({ cls := "FacesOfLinesModel", name := "tellNext", desc := "()V" } : Jvm.MethodName)) ∈ tbG := tbG_of (in_t6 (List.mem_of_getElem? (i := 64) (by decide +kernel))) rfl
theorem q_1266 : (Jvm.Cond.instanceMethod ({ cls := "FacesOfLinesModel", name := "tellNext", desc := "()V" } : Jvm.MethodName)) ∈ tbG := tbG_of (in_t6 (List.mem_of_getElem? (i := 66) (by decide +kernel))) rfl
theorem q_1267 : (Jvm.Cond.code ({ cls := "FacesOfLinesModel", name := "tellNext", desc := "()V" } : Jvm.MethodName) prog_12_method_59_code (5 : Nat) (Option.none : Option Jvm.ClassFile.FieldType)) ∈ tbG := tbG_of (in_t6 (List.mem_of_getElem? (i := 67) (by decide +kernel))) rfl
theorem q_1268 : (Jvm.Cond.methodLink "FacesOfLinesModel" (336 : Nat) ({ cls := "FacesOfLinesModel", name := "isNext", desc := "(II)V" } : Jvm.MethodName)) ∈ tbG := tbG_of (in_t6 (List.mem_of_getElem? (i := 68) (by decide +kernel))) rfl
theorem q_1270 : (Jvm.Cond.instanceMethod ({ cls := "FacesOfLinesModel", name := "isNext", desc := "(II)V" } : Jvm.MethodName)) ∈ tbG := tbG_of (in_t6 (List.mem_of_getElem? (i := 70) (by decide +kernel))) rfl
theorem q_1271 : (Jvm.Cond.code ({ cls := "FacesOfLinesModel", name := "isNext", desc := "(II)V" } : Jvm.MethodName) prog_12_method_58_code (3 : Nat) (Option.none : Option Jvm.ClassFile.FieldType)) ∈ tbG := tbG_of (in_t6 (List.mem_of_getElem? (i := 71) (by decide +kernel))) rfl
theorem q_1276 : (Jvm.Cond.methodLink "FacesOfLinesModel" (348 : Nat) ({ cls := "FacesOfLinesModel", name := "isPlace", desc := "(III)Z" } : Jvm.MethodName)) ∈ tbG := tbG_of (in_t6 (List.mem_of_getElem? (i := 76) (by decide +kernel))) rfl
theorem q_1277 : (Jvm.Cond.static ({ cls := "FacesOfLinesModel", name := "isPlace", desc := "(III)Z" } : Jvm.MethodName)) ∈ tbG := tbG_of (in_t6 (List.mem_of_getElem? (i := 77) (by decide +kernel))) rfl
theorem q_1278 : (Jvm.Cond.code ({ cls := "FacesOfLinesModel", name := "isPlace", desc := "(III)Z" } : Jvm.MethodName) prog_12_method_62_code (3 : Nat) (Option.some Jvm.ClassFile.FieldType.boolean)) ∈ tbG := tbG_of (in_t6 (List.mem_of_getElem? (i := 78) (by decide +kernel))) rfl
theorem q_1291 : (Jvm.Cond.methodLink "FacesOfLinesModel" (351 : Nat) ({ cls := "FacesOfLinesModel", name := "partsMany", desc := "()I" } : Jvm.MethodName)) ∈ tbG := tbG_of (in_t6 (List.mem_of_getElem? (i := 91) (by decide +kernel))) rfl
theorem q_1293 : (Jvm.Cond.instanceMethod ({ cls := "FacesOfLinesModel", name := "partsMany", desc := "()I" } : Jvm.MethodName)) ∈ tbG := tbG_of (in_t6 (List.mem_of_getElem? (i := 93) (by decide +kernel))) rfl
theorem q_1294 : (Jvm.Cond.code ({ cls := "FacesOfLinesModel", name := "partsMany", desc := "()I" } : Jvm.MethodName) prog_12_method_66_code (4 : Nat) (Option.some Jvm.ClassFile.FieldType.int)) ∈ tbG := tbG_of (in_t6 (List.mem_of_getElem? (i := 94) (by decide +kernel))) rfl
theorem q_1295 : (Jvm.Cond.methodLink "FacesOfLinesModel" (354 : Nat) ({ cls := "FacesOfLinesModel", name := "twos", desc := "(I)I" } : Jvm.MethodName)) ∈ tbG := tbG_of (in_t6 (List.mem_of_getElem? (i := 95) (by decide +kernel))) rfl
theorem q_1297 : (Jvm.Cond.instanceMethod ({ cls := "FacesOfLinesModel", name := "twos", desc := "(I)I" } : Jvm.MethodName)) ∈ tbG := tbG_of (in_t6 (List.mem_of_getElem? (i := 97) (by decide +kernel))) rfl
theorem q_1298 : (Jvm.Cond.code ({ cls := "FacesOfLinesModel", name := "twos", desc := "(I)I" } : Jvm.MethodName) prog_12_method_67_code (5 : Nat) (Option.some Jvm.ClassFile.FieldType.int)) ∈ tbG := tbG_of (in_t6 (List.mem_of_getElem? (i := 98) (by decide +kernel))) rfl
theorem q_1303 : (Jvm.Cond.methodLink "FacesOfLinesModel" (376 : Nat) ({ cls := "FacesOfLinesModel", name := "facesWithout", desc := "(I)I" } : Jvm.MethodName)) ∈ tbG := tbG_of (in_t6 (List.mem_of_getElem? (i := 103) (by decide +kernel))) rfl
theorem q_1305 : (Jvm.Cond.instanceMethod ({ cls := "FacesOfLinesModel", name := "facesWithout", desc := "(I)I" } : Jvm.MethodName)) ∈ tbG := tbG_of (in_t6 (List.mem_of_getElem? (i := 105) (by decide +kernel))) rfl
theorem q_1306 : (Jvm.Cond.code ({ cls := "FacesOfLinesModel", name := "facesWithout", desc := "(I)I" } : Jvm.MethodName) prog_12_method_73_code (3 : Nat) (Option.some Jvm.ClassFile.FieldType.int)) ∈ tbG := tbG_of (in_t6 (List.mem_of_getElem? (i := 106) (by decide +kernel))) rfl
theorem q_1307 : (Jvm.Cond.methodLink "FacesOfLinesModel" (367 : Nat) ({ cls := "FacesOfLinesModel", name := "keep", desc := "(I)V" } : Jvm.MethodName)) ∈ tbG := tbG_of (in_t6 (List.mem_of_getElem? (i := 107) (by decide +kernel))) rfl
theorem q_1309 : (Jvm.Cond.instanceMethod ({ cls := "FacesOfLinesModel", name := "keep", desc := "(I)V" } : Jvm.MethodName)) ∈ tbG := tbG_of (in_t6 (List.mem_of_getElem? (i := 109) (by decide +kernel))) rfl
theorem q_1310 : (Jvm.Cond.code ({ cls := "FacesOfLinesModel", name := "keep", desc := "(I)V" } : Jvm.MethodName) prog_12_method_71_code (3 : Nat) (Option.none : Option Jvm.ClassFile.FieldType)) ∈ tbG := tbG_of (in_t6 (List.mem_of_getElem? (i := 110) (by decide +kernel))) rfl
theorem q_1311 : (Jvm.Cond.methodLink "FacesOfLinesModel" (357 : Nat) ({ cls := "FacesOfLinesModel", name := "endRow", desc := "(I)[I" } : Jvm.MethodName)) ∈ tbG := tbG_of (in_t6 (List.mem_of_getElem? (i := 111) (by decide +kernel))) rfl
theorem q_1313 : (Jvm.Cond.instanceMethod ({ cls := "FacesOfLinesModel", name := "endRow", desc := "(I)[I" } : Jvm.MethodName)) ∈ tbG := tbG_of (in_t6 (List.mem_of_getElem? (i := 113) (by decide +kernel))) rfl
theorem q_1314 : (Jvm.Cond.code ({ cls := "FacesOfLinesModel", name := "endRow", desc := "(I)[I" } : Jvm.MethodName) prog_12_method_70_code (2 : Nat) (Option.some (Jvm.ClassFile.FieldType.array Jvm.ClassFile.FieldType.int))) ∈ tbG := tbG_of (in_t6 (List.mem_of_getElem? (i := 114) (by decide +kernel))) rfl
theorem q_1315 : (Jvm.Cond.methodLink "FacesOfLinesModel" (361 : Nat) ({ cls := "java/lang/System", name := "arraycopy", desc := "(Ljava/lang/Object;ILjava/lang/Object;II)V" } : Jvm.MethodName)) ∈ tbG := tbG_of (in_t6 (List.mem_of_getElem? (i := 115) (by decide +kernel))) rfl
theorem q_1316 : (Jvm.Cond.methodLink "FacesOfLinesModel" (370 : Nat) ({ cls := "FacesOfLinesModel", name := "facesNow", desc := "()I" } : Jvm.MethodName)) ∈ tbG := tbG_of (in_t6 (List.mem_of_getElem? (i := 116) (by decide +kernel))) rfl
theorem q_1318 : (Jvm.Cond.instanceMethod ({ cls := "FacesOfLinesModel", name := "facesNow", desc := "()I" } : Jvm.MethodName)) ∈ tbG := tbG_of (in_t6 (List.mem_of_getElem? (i := 118) (by decide +kernel))) rfl
theorem q_1319 : (Jvm.Cond.code ({ cls := "FacesOfLinesModel", name := "facesNow", desc := "()I" } : Jvm.MethodName) prog_12_method_68_code (1 : Nat) (Option.some Jvm.ClassFile.FieldType.int)) ∈ tbG := tbG_of (in_t6 (List.mem_of_getElem? (i := 119) (by decide +kernel))) rfl
theorem q_1320 : (Jvm.Cond.methodLink "FacesOfLinesModel" (373 : Nat) ({ cls := "FacesOfLinesModel", name := "layBack", desc := "(I)V" } : Jvm.MethodName)) ∈ tbG := tbG_of (in_t6 (List.mem_of_getElem? (i := 120) (by decide +kernel))) rfl
theorem q_1322 : (Jvm.Cond.instanceMethod ({ cls := "FacesOfLinesModel", name := "layBack", desc := "(I)V" } : Jvm.MethodName)) ∈ tbG := tbG_of (in_t6 (List.mem_of_getElem? (i := 122) (by decide +kernel))) rfl
theorem q_1323 : (Jvm.Cond.code ({ cls := "FacesOfLinesModel", name := "layBack", desc := "(I)V" } : Jvm.MethodName) prog_12_method_72_code (3 : Nat) (Option.none : Option Jvm.ClassFile.FieldType)) ∈ tbG := tbG_of (in_t6 (List.mem_of_getElem? (i := 123) (by decide +kernel))) rfl
theorem q_1332 : (Jvm.Cond.methodLink "FacesOfLinesModel" (389 : Nat) ({ cls := "FacesOfLinesModel", name := "byLot", desc := "(II)I" } : Jvm.MethodName)) ∈ tbG := tbG_of (in_t6 (List.mem_of_getElem? (i := 132) (by decide +kernel))) rfl
theorem q_1334 : (Jvm.Cond.instanceMethod ({ cls := "FacesOfLinesModel", name := "byLot", desc := "(II)I" } : Jvm.MethodName)) ∈ tbG := tbG_of (in_t6 (List.mem_of_getElem? (i := 134) (by decide +kernel))) rfl
theorem q_1335 : (Jvm.Cond.code ({ cls := "FacesOfLinesModel", name := "byLot", desc := "(II)I" } : Jvm.MethodName) prog_12_method_77_code (8 : Nat) (Option.some Jvm.ClassFile.FieldType.int)) ∈ tbG := tbG_of (in_t6 (List.mem_of_getElem? (i := 135) (by decide +kernel))) rfl
theorem q_1336 : (Jvm.Cond.methodLink "FacesOfLinesModel" (383 : Nat) ({ cls := "FacesOfLinesModel", name := "draw", desc := "()I" } : Jvm.MethodName)) ∈ tbG := tbG_of (in_t6 (List.mem_of_getElem? (i := 136) (by decide +kernel))) rfl
theorem q_1338 : (Jvm.Cond.instanceMethod ({ cls := "FacesOfLinesModel", name := "draw", desc := "()I" } : Jvm.MethodName)) ∈ tbG := tbG_of (in_t6 (List.mem_of_getElem? (i := 138) (by decide +kernel))) rfl
theorem q_1339 : (Jvm.Cond.code ({ cls := "FacesOfLinesModel", name := "draw", desc := "()I" } : Jvm.MethodName) prog_12_method_76_code (1 : Nat) (Option.some Jvm.ClassFile.FieldType.int)) ∈ tbG := tbG_of (in_t6 (List.mem_of_getElem? (i := 139) (by decide +kernel))) rfl
theorem q_1340 : (Jvm.Cond.constant "FacesOfLinesModel" (382 : Nat) (1103515245 : Int32)) ∈ tbG := tbG_of (in_t6 (List.mem_of_getElem? (i := 140) (by decide +kernel))) rfl
theorem q_1341 : (Jvm.Cond.methodLink "FacesOfLinesModel" (386 : Nat) ({ cls := "FacesOfLinesModel", name := "line", desc := "(IIII)I" } : Jvm.MethodName)) ∈ tbG := tbG_of (in_t6 (List.mem_of_getElem? (i := 141) (by decide +kernel))) rfl
theorem q_1350 : (Jvm.Cond.methodLink "FacesOfLinesModel" (392 : Nat) ({ cls := "FacesOfLinesModel", name := "isSheet", desc := "(I)Z" } : Jvm.MethodName)) ∈ tbG := tbG_of (in_t6 (List.mem_of_getElem? (i := 150) (by decide +kernel))) rfl
theorem q_1351 : (Jvm.Cond.static ({ cls := "FacesOfLinesModel", name := "isSheet", desc := "(I)Z" } : Jvm.MethodName)) ∈ tbG := tbG_of (in_t6 (List.mem_of_getElem? (i := 151) (by decide +kernel))) rfl
theorem q_1352 : (Jvm.Cond.code ({ cls := "FacesOfLinesModel", name := "isSheet", desc := "(I)Z" } : Jvm.MethodName) prog_12_method_85_code (1 : Nat) (Option.some Jvm.ClassFile.FieldType.boolean)) ∈ tbG := tbG_of (in_t6 (List.mem_of_getElem? (i := 152) (by decide +kernel))) rfl
theorem q_1353 : (Jvm.Cond.methodLink "FacesOfLinesModel" (395 : Nat) ({ cls := "FacesOfLinesModel", name := "otherwise", desc := "(III)I" } : Jvm.MethodName)) ∈ tbG := tbG_of (in_t6 (List.mem_of_getElem? (i := 153) (by decide +kernel))) rfl
theorem q_1355 : (Jvm.Cond.instanceMethod ({ cls := "FacesOfLinesModel", name := "otherwise", desc := "(III)I" } : Jvm.MethodName)) ∈ tbG := tbG_of (in_t6 (List.mem_of_getElem? (i := 155) (by decide +kernel))) rfl
theorem q_1356 : (Jvm.Cond.code ({ cls := "FacesOfLinesModel", name := "otherwise", desc := "(III)I" } : Jvm.MethodName) prog_12_method_80_code (5 : Nat) (Option.some Jvm.ClassFile.FieldType.int)) ∈ tbG := tbG_of (in_t6 (List.mem_of_getElem? (i := 156) (by decide +kernel))) rfl
theorem sl_0 : Cond.selects "FacesOfLines" ⟨"FacesOfLines", "forgetWhatFollows", "()V"⟩ ⟨"FacesOfLines", "forgetWhatFollows", "()V"⟩ ∈ tbG := tbG_of (in_sl (q := (⟨"FacesOfLines", "forgetWhatFollows", "()V"⟩, 16)) (List.mem_of_getElem? (i := 0) (by decide +kernel))) rfl
theorem sl_1 : Cond.selects "FacesOfLines" ⟨"FacesOfLines", "knowPoints", "()V"⟩ ⟨"FacesOfLines", "knowPoints", "()V"⟩ ∈ tbG := tbG_of (in_sl (q := (⟨"FacesOfLines", "knowPoints", "()V"⟩, 16)) (List.mem_of_getElem? (i := 1) (by decide +kernel))) rfl
theorem sl_2 : Cond.selects "FacesOfLines$Points" ⟨"FacesOfLines$Points", "add", "(JJJJ)V"⟩ ⟨"FacesOfLines$Points", "add", "(JJJJ)V"⟩ ∈ tbG := tbG_of (in_sl (q := (⟨"FacesOfLines$Points", "add", "(JJJJ)V"⟩, 11)) (List.mem_of_getElem? (i := 2) (by decide +kernel))) rfl
theorem sl_3 : Cond.selects "FacesOfLines$Points" ⟨"FacesOfLines$Points", "compareTo", "(IJJJJ)I"⟩ ⟨"FacesOfLines$Points", "compareTo", "(IJJJJ)I"⟩ ∈ tbG := tbG_of (in_sl (q := (⟨"FacesOfLines$Points", "compareTo", "(IJJJJ)I"⟩, 11)) (List.mem_of_getElem? (i := 3) (by decide +kernel))) rfl
theorem sl_4 : Cond.selects "FacesOfLines$Points" ⟨"FacesOfLines$Points", "addMeetings", "(LFacesOfLines$Lines;)V"⟩ ⟨"FacesOfLines$Points", "addMeetings", "(LFacesOfLines$Lines;)V"⟩ ∈ tbG := tbG_of (in_sl (q := (⟨"FacesOfLines$Points", "addMeetings", "(LFacesOfLines$Lines;)V"⟩, 11)) (List.mem_of_getElem? (i := 4) (by decide +kernel))) rfl
theorem sl_5 : Cond.selects "FacesOfLines$Meeting" ⟨"FacesOfLines$Meeting", "findInOneRow", "(LFacesOfLines$Lines;II)V"⟩ ⟨"FacesOfLines$Meeting", "findInOneRow", "(LFacesOfLines$Lines;II)V"⟩ ∈ tbG := tbG_of (in_sl (q := (⟨"FacesOfLines$Meeting", "findInOneRow", "(LFacesOfLines$Lines;II)V"⟩, 5)) (List.mem_of_getElem? (i := 5) (by decide +kernel))) rfl
theorem sl_6 : Cond.selects "FacesOfLines$Meeting" ⟨"FacesOfLines$Meeting", "layAt", "(JJJ)V"⟩ ⟨"FacesOfLines$Meeting", "layAt", "(JJJ)V"⟩ ∈ tbG := tbG_of (in_sl (q := (⟨"FacesOfLines$Meeting", "layAt", "(JJJ)V"⟩, 5)) (List.mem_of_getElem? (i := 6) (by decide +kernel))) rfl
theorem sl_7 : Cond.selects "FacesOfLines$Points" ⟨"FacesOfLines$Points", "linesThrough", "(LFacesOfLines$Lines;I)I"⟩ ⟨"FacesOfLines$Points", "linesThrough", "(LFacesOfLines$Lines;I)I"⟩ ∈ tbG := tbG_of (in_sl (q := (⟨"FacesOfLines$Points", "linesThrough", "(LFacesOfLines$Lines;I)I"⟩, 11)) (List.mem_of_getElem? (i := 7) (by decide +kernel))) rfl
theorem sl_8 : Cond.selects "FacesOfLines$Points" ⟨"FacesOfLines$Points", "walkAlong", "(I)V"⟩ ⟨"FacesOfLines$Points", "walkAlong", "(I)V"⟩ ∈ tbG := tbG_of (in_sl (q := (⟨"FacesOfLines$Points", "walkAlong", "(I)V"⟩, 11)) (List.mem_of_getElem? (i := 8) (by decide +kernel))) rfl
theorem sl_9 : Cond.selects "FacesOfLines$Points" ⟨"FacesOfLines$Points", "unite", "(II)V"⟩ ⟨"FacesOfLines$Points", "unite", "(II)V"⟩ ∈ tbG := tbG_of (in_sl (q := (⟨"FacesOfLines$Points", "unite", "(II)V"⟩, 11)) (List.mem_of_getElem? (i := 9) (by decide +kernel))) rfl
theorem sl_10 : Cond.selects "FacesOfLines$Points" ⟨"FacesOfLines$Points", "rootOf", "(I)I"⟩ ⟨"FacesOfLines$Points", "rootOf", "(I)I"⟩ ∈ tbG := tbG_of (in_sl (q := (⟨"FacesOfLines$Points", "rootOf", "(I)I"⟩, 11)) (List.mem_of_getElem? (i := 10) (by decide +kernel))) rfl
theorem sl_11 : Cond.selects "FacesOfLines$Points" ⟨"FacesOfLines$Points", "countParts", "()V"⟩ ⟨"FacesOfLines$Points", "countParts", "()V"⟩ ∈ tbG := tbG_of (in_sl (q := (⟨"FacesOfLines$Points", "countParts", "()V"⟩, 11)) (List.mem_of_getElem? (i := 11) (by decide +kernel))) rfl
theorem sl_12 : Cond.selects "FacesOfLines" ⟨"FacesOfLines", "knowHulls", "()V"⟩ ⟨"FacesOfLines", "knowHulls", "()V"⟩ ∈ tbG := tbG_of (in_sl (q := (⟨"FacesOfLines", "knowHulls", "()V"⟩, 16)) (List.mem_of_getElem? (i := 12) (by decide +kernel))) rfl
theorem sl_13 : Cond.selects "FacesOfLines$Hulls" ⟨"FacesOfLines$Hulls", "add", "(II)V"⟩ ⟨"FacesOfLines$Hulls", "add", "(II)V"⟩ ∈ tbG := tbG_of (in_sl (q := (⟨"FacesOfLines$Hulls", "add", "(II)V"⟩, 5)) (List.mem_of_getElem? (i := 13) (by decide +kernel))) rfl
theorem sl_14 : Cond.selects "FacesOfLines$Hulls" ⟨"FacesOfLines$Hulls", "peelOff", "(I)I"⟩ ⟨"FacesOfLines$Hulls", "peelOff", "(I)I"⟩ ∈ tbG := tbG_of (in_sl (q := (⟨"FacesOfLines$Hulls", "peelOff", "(I)I"⟩, 5)) (List.mem_of_getElem? (i := 14) (by decide +kernel))) rfl
theorem sl_15 : Cond.selects "FacesOfLines$Hulls" ⟨"FacesOfLines$Hulls", "isOnBorder", "(II)Z"⟩ ⟨"FacesOfLines$Hulls", "isOnBorder", "(II)Z"⟩ ∈ tbG := tbG_of (in_sl (q := (⟨"FacesOfLines$Hulls", "isOnBorder", "(II)Z"⟩, 5)) (List.mem_of_getElem? (i := 15) (by decide +kernel))) rfl
theorem sl_16 : Cond.selects "FacesOfLines$Hulls" ⟨"FacesOfLines$Hulls", "isLeft", "(II)Z"⟩ ⟨"FacesOfLines$Hulls", "isLeft", "(II)Z"⟩ ∈ tbG := tbG_of (in_sl (q := (⟨"FacesOfLines$Hulls", "isLeft", "(II)Z"⟩, 5)) (List.mem_of_getElem? (i := 16) (by decide +kernel))) rfl
theorem sl_17 : Cond.selects "FacesOfLines$Hulls" ⟨"FacesOfLines$Hulls", "noneAtTheLeft", "(III)Z"⟩ ⟨"FacesOfLines$Hulls", "noneAtTheLeft", "(III)Z"⟩ ∈ tbG := tbG_of (in_sl (q := (⟨"FacesOfLines$Hulls", "noneAtTheLeft", "(III)Z"⟩, 5)) (List.mem_of_getElem? (i := 17) (by decide +kernel))) rfl
theorem sl_18 : Cond.selects "FacesOfLines$Standing" ⟨"FacesOfLines$Standing", "let", "(LFacesOfLines$Lines;I)V"⟩ ⟨"FacesOfLines$Standing", "let", "(LFacesOfLines$Lines;I)V"⟩ ∈ tbG := tbG_of (in_sl (q := (⟨"FacesOfLines$Standing", "let", "(LFacesOfLines$Lines;I)V"⟩, 3)) (List.mem_of_getElem? (i := 18) (by decide +kernel))) rfl
theorem sl_19 : Cond.selects "FacesOfLines" ⟨"FacesOfLines", "knowFaces", "()V"⟩ ⟨"FacesOfLines", "knowFaces", "()V"⟩ ∈ tbG := tbG_of (in_sl (q := (⟨"FacesOfLines", "knowFaces", "()V"⟩, 16)) (List.mem_of_getElem? (i := 19) (by decide +kernel))) rfl
theorem sl_20 : Cond.selects "FacesOfLines$Slabs" ⟨"FacesOfLines$Slabs", "findXs", "(LFacesOfLines$Points;)V"⟩ ⟨"FacesOfLines$Slabs", "findXs", "(LFacesOfLines$Points;)V"⟩ ∈ tbG := tbG_of (in_sl (q := (⟨"FacesOfLines$Slabs", "findXs", "(LFacesOfLines$Points;)V"⟩, 8)) (List.mem_of_getElem? (i := 20) (by decide +kernel))) rfl
theorem sl_21 : Cond.selects "FacesOfLines$Slabs" ⟨"FacesOfLines$Slabs", "addCell", "(III)V"⟩ ⟨"FacesOfLines$Slabs", "addCell", "(III)V"⟩ ∈ tbG := tbG_of (in_sl (q := (⟨"FacesOfLines$Slabs", "addCell", "(III)V"⟩, 8)) (List.mem_of_getElem? (i := 21) (by decide +kernel))) rfl
theorem sl_22 : Cond.selects "FacesOfLines$Slabs" ⟨"FacesOfLines$Slabs", "addCells", "(LFacesOfLines$Lines;LFacesOfLines$Standing;I)V"⟩ ⟨"FacesOfLines$Slabs", "addCells", "(LFacesOfLines$Lines;LFacesOfLines$Standing;I)V"⟩ ∈ tbG := tbG_of (in_sl (q := (⟨"FacesOfLines$Slabs", "addCells", "(LFacesOfLines$Lines;LFacesOfLines$Standing;I)V"⟩, 8)) (List.mem_of_getElem? (i := 22) (by decide +kernel))) rfl
theorem sl_23 : Cond.selects "FacesOfLines$Stretches" ⟨"FacesOfLines$Stretches", "findSteps", "(LFacesOfLines$Lines;JJ)V"⟩ ⟨"FacesOfLines$Stretches", "findSteps", "(LFacesOfLines$Lines;JJ)V"⟩ ∈ tbG := tbG_of (in_sl (q := (⟨"FacesOfLines$Stretches", "findSteps", "(LFacesOfLines$Lines;JJ)V"⟩, 9)) (List.mem_of_getElem? (i := 23) (by decide +kernel))) rfl
theorem sl_24 : Cond.selects "FacesOfLines$Stretches" ⟨"FacesOfLines$Stretches", "addStep", "(JJ)V"⟩ ⟨"FacesOfLines$Stretches", "addStep", "(JJ)V"⟩ ∈ tbG := tbG_of (in_sl (q := (⟨"FacesOfLines$Stretches", "addStep", "(JJ)V"⟩, 9)) (List.mem_of_getElem? (i := 24) (by decide +kernel))) rfl
theorem sl_25 : Cond.selects "FacesOfLines$Stretches" ⟨"FacesOfLines$Stretches", "stepsUnder", "(JJ)I"⟩ ⟨"FacesOfLines$Stretches", "stepsUnder", "(JJ)I"⟩ ∈ tbG := tbG_of (in_sl (q := (⟨"FacesOfLines$Stretches", "stepsUnder", "(JJ)I"⟩, 9)) (List.mem_of_getElem? (i := 25) (by decide +kernel))) rfl
theorem sl_26 : Cond.selects "FacesOfLines$Stretches" ⟨"FacesOfLines$Stretches", "cellAt", "(LFacesOfLines$Slabs;III)I"⟩ ⟨"FacesOfLines$Stretches", "cellAt", "(LFacesOfLines$Slabs;III)I"⟩ ∈ tbG := tbG_of (in_sl (q := (⟨"FacesOfLines$Stretches", "cellAt", "(LFacesOfLines$Slabs;III)I"⟩, 9)) (List.mem_of_getElem? (i := 26) (by decide +kernel))) rfl
theorem sl_27 : Cond.selects "FacesOfLines$Stretches" ⟨"FacesOfLines$Stretches", "uprightsAt", "(LFacesOfLines$Lines;JJI)I"⟩ ⟨"FacesOfLines$Stretches", "uprightsAt", "(LFacesOfLines$Lines;JJI)I"⟩ ∈ tbG := tbG_of (in_sl (q := (⟨"FacesOfLines$Stretches", "uprightsAt", "(LFacesOfLines$Lines;JJI)I"⟩, 9)) (List.mem_of_getElem? (i := 27) (by decide +kernel))) rfl
theorem sl_28 : Cond.selects "FacesOfLines$Stretches" ⟨"FacesOfLines$Stretches", "add", "(III)V"⟩ ⟨"FacesOfLines$Stretches", "add", "(III)V"⟩ ∈ tbG := tbG_of (in_sl (q := (⟨"FacesOfLines$Stretches", "add", "(III)V"⟩, 9)) (List.mem_of_getElem? (i := 28) (by decide +kernel))) rfl
theorem sl_29 : Cond.selects "FacesOfLines$Faces" ⟨"FacesOfLines$Faces", "unite", "(II)V"⟩ ⟨"FacesOfLines$Faces", "unite", "(II)V"⟩ ∈ tbG := tbG_of (in_sl (q := (⟨"FacesOfLines$Faces", "unite", "(II)V"⟩, 7)) (List.mem_of_getElem? (i := 29) (by decide +kernel))) rfl
theorem sl_30 : Cond.selects "FacesOfLines$Faces" ⟨"FacesOfLines$Faces", "rootOf", "(I)I"⟩ ⟨"FacesOfLines$Faces", "rootOf", "(I)I"⟩ ∈ tbG := tbG_of (in_sl (q := (⟨"FacesOfLines$Faces", "rootOf", "(I)I"⟩, 7)) (List.mem_of_getElem? (i := 30) (by decide +kernel))) rfl
theorem sl_31 : Cond.selects "FacesOfLines$Faces" ⟨"FacesOfLines$Faces", "number", "(I)V"⟩ ⟨"FacesOfLines$Faces", "number", "(I)V"⟩ ∈ tbG := tbG_of (in_sl (q := (⟨"FacesOfLines$Faces", "number", "(I)V"⟩, 7)) (List.mem_of_getElem? (i := 31) (by decide +kernel))) rfl
theorem sl_32 : Cond.selects "FacesOfLines$Faces" ⟨"FacesOfLines$Faces", "boundByCells", "(LFacesOfLines$Slabs;)V"⟩ ⟨"FacesOfLines$Faces", "boundByCells", "(LFacesOfLines$Slabs;)V"⟩ ∈ tbG := tbG_of (in_sl (q := (⟨"FacesOfLines$Faces", "boundByCells", "(LFacesOfLines$Slabs;)V"⟩, 7)) (List.mem_of_getElem? (i := 32) (by decide +kernel))) rfl
theorem sl_33 : Cond.selects "FacesOfLines$Faces" ⟨"FacesOfLines$Faces", "link", "(II)V"⟩ ⟨"FacesOfLines$Faces", "link", "(II)V"⟩ ∈ tbG := tbG_of (in_sl (q := (⟨"FacesOfLines$Faces", "link", "(II)V"⟩, 7)) (List.mem_of_getElem? (i := 33) (by decide +kernel))) rfl
theorem sl_34 : Cond.selects "FacesOfLines$Faces" ⟨"FacesOfLines$Faces", "boundByUprights", "(LFacesOfLines$Stretches;)V"⟩ ⟨"FacesOfLines$Faces", "boundByUprights", "(LFacesOfLines$Stretches;)V"⟩ ∈ tbG := tbG_of (in_sl (q := (⟨"FacesOfLines$Faces", "boundByUprights", "(LFacesOfLines$Stretches;)V"⟩, 7)) (List.mem_of_getElem? (i := 34) (by decide +kernel))) rfl
theorem sl_35 : Cond.selects "FacesOfLines" ⟨"FacesOfLines", "linesOn", "(III)I"⟩ ⟨"FacesOfLines", "linesOn", "(III)I"⟩ ∈ tbG := tbG_of (in_sl (q := (⟨"FacesOfLines", "linesOn", "(III)I"⟩, 16)) (List.mem_of_getElem? (i := 35) (by decide +kernel))) rfl
theorem sl_36 : Cond.selects "FacesOfLines" ⟨"FacesOfLines", "facesWithout", "(I)I"⟩ ⟨"FacesOfLines", "facesWithout", "(I)I"⟩ ∈ tbG := tbG_of (in_sl (q := (⟨"FacesOfLines", "facesWithout", "(I)I"⟩, 16)) (List.mem_of_getElem? (i := 36) (by decide +kernel))) rfl
theorem sl_37 : Cond.selects "FacesOfLines" ⟨"FacesOfLines", "facesDrawn", "(II)I"⟩ ⟨"FacesOfLines", "facesDrawn", "(II)I"⟩ ∈ tbG := tbG_of (in_sl (q := (⟨"FacesOfLines", "facesDrawn", "(II)I"⟩, 16)) (List.mem_of_getElem? (i := 37) (by decide +kernel))) rfl
theorem sl_38 : Cond.selects "FacesOfLines" ⟨"FacesOfLines", "toldXs", "(IZ)I"⟩ ⟨"FacesOfLines", "toldXs", "(IZ)I"⟩ ∈ tbG := tbG_of (in_sl (q := (⟨"FacesOfLines", "toldXs", "(IZ)I"⟩, 16)) (List.mem_of_getElem? (i := 38) (by decide +kernel))) rfl
theorem sl_39 : Cond.selects "FacesOfLines" ⟨"FacesOfLines", "toldWithout", "(II)I"⟩ ⟨"FacesOfLines", "toldWithout", "(II)I"⟩ ∈ tbG := tbG_of (in_sl (q := (⟨"FacesOfLines", "toldWithout", "(II)I"⟩, 16)) (List.mem_of_getElem? (i := 39) (by decide +kernel))) rfl
theorem sl_40 : Cond.selects "FacesOfLinesModel" ⟨"FacesOfLinesModel", "stands", "(IIIII)V"⟩ ⟨"FacesOfLinesModel", "stands", "(IIIII)V"⟩ ∈ tbG := tbG_of (in_sl (q := (⟨"FacesOfLinesModel", "stands", "(IIIII)V"⟩, 48)) (List.mem_of_getElem? (i := 40) (by decide +kernel))) rfl
theorem sl_41 : Cond.selects "FacesOfLinesModel" ⟨"FacesOfLinesModel", "isLine", "(I)Z"⟩ ⟨"FacesOfLinesModel", "isLine", "(I)Z"⟩ ∈ tbG := tbG_of (in_sl (q := (⟨"FacesOfLinesModel", "isLine", "(I)Z"⟩, 48)) (List.mem_of_getElem? (i := 41) (by decide +kernel))) rfl
theorem sl_42 : Cond.selects "FacesOfLinesModel" ⟨"FacesOfLinesModel", "drops", "(I)V"⟩ ⟨"FacesOfLinesModel", "drops", "(I)V"⟩ ∈ tbG := tbG_of (in_sl (q := (⟨"FacesOfLinesModel", "drops", "(I)V"⟩, 48)) (List.mem_of_getElem? (i := 42) (by decide +kernel))) rfl
theorem sl_43 : Cond.selects "FacesOfLinesModel" ⟨"FacesOfLinesModel", "meet", "(II)V"⟩ ⟨"FacesOfLinesModel", "meet", "(II)V"⟩ ∈ tbG := tbG_of (in_sl (q := (⟨"FacesOfLinesModel", "meet", "(II)V"⟩, 48)) (List.mem_of_getElem? (i := 43) (by decide +kernel))) rfl
theorem sl_44 : Cond.selects "FacesOfLinesModel" ⟨"FacesOfLinesModel", "turn", "(IIII)I"⟩ ⟨"FacesOfLinesModel", "turn", "(IIII)I"⟩ ∈ tbG := tbG_of (in_sl (q := (⟨"FacesOfLinesModel", "turn", "(IIII)I"⟩, 48)) (List.mem_of_getElem? (i := 44) (by decide +kernel))) rfl
theorem sl_45 : Cond.selects "FacesOfLinesModel" ⟨"FacesOfLinesModel", "meetInRow", "(II)V"⟩ ⟨"FacesOfLinesModel", "meetInRow", "(II)V"⟩ ∈ tbG := tbG_of (in_sl (q := (⟨"FacesOfLinesModel", "meetInRow", "(II)V"⟩, 48)) (List.mem_of_getElem? (i := 45) (by decide +kernel))) rfl
theorem sl_46 : Cond.selects "FacesOfLinesModel" ⟨"FacesOfLinesModel", "tellPoints", "()V"⟩ ⟨"FacesOfLinesModel", "tellPoints", "()V"⟩ ∈ tbG := tbG_of (in_sl (q := (⟨"FacesOfLinesModel", "tellPoints", "()V"⟩, 48)) (List.mem_of_getElem? (i := 46) (by decide +kernel))) rfl
theorem sl_47 : Cond.selects "FacesOfLinesModel" ⟨"FacesOfLinesModel", "addPoint", "(JJJ)V"⟩ ⟨"FacesOfLinesModel", "addPoint", "(JJJ)V"⟩ ∈ tbG := tbG_of (in_sl (q := (⟨"FacesOfLinesModel", "addPoint", "(JJJ)V"⟩, 48)) (List.mem_of_getElem? (i := 47) (by decide +kernel))) rfl
theorem sl_48 : Cond.selects "FacesOfLinesModel" ⟨"FacesOfLinesModel", "pointAgainst", "(IJJJJ)I"⟩ ⟨"FacesOfLinesModel", "pointAgainst", "(IJJJJ)I"⟩ ∈ tbG := tbG_of (in_sl (q := (⟨"FacesOfLinesModel", "pointAgainst", "(IJJJJ)I"⟩, 48)) (List.mem_of_getElem? (i := 48) (by decide +kernel))) rfl
theorem sl_49 : Cond.selects "FacesOfLinesModel" ⟨"FacesOfLinesModel", "linesAt", "(I)I"⟩ ⟨"FacesOfLinesModel", "linesAt", "(I)I"⟩ ∈ tbG := tbG_of (in_sl (q := (⟨"FacesOfLinesModel", "linesAt", "(I)I"⟩, 48)) (List.mem_of_getElem? (i := 49) (by decide +kernel))) rfl
theorem sl_50 : Cond.selects "FacesOfLinesModel" ⟨"FacesOfLinesModel", "linesOn", "(JJJJ)I"⟩ ⟨"FacesOfLinesModel", "linesOn", "(JJJJ)I"⟩ ∈ tbG := tbG_of (in_sl (q := (⟨"FacesOfLinesModel", "linesOn", "(JJJJ)I"⟩, 48)) (List.mem_of_getElem? (i := 50) (by decide +kernel))) rfl
theorem sl_51 : Cond.selects "FacesOfLinesModel" ⟨"FacesOfLinesModel", "isOn", "(IJJJJ)Z"⟩ ⟨"FacesOfLinesModel", "isOn", "(IJJJJ)Z"⟩ ∈ tbG := tbG_of (in_sl (q := (⟨"FacesOfLinesModel", "isOn", "(IJJJJ)Z"⟩, 48)) (List.mem_of_getElem? (i := 51) (by decide +kernel))) rfl
theorem sl_52 : Cond.selects "FacesOfLinesModel" ⟨"FacesOfLinesModel", "endsAt", "(I)I"⟩ ⟨"FacesOfLinesModel", "endsAt", "(I)I"⟩ ∈ tbG := tbG_of (in_sl (q := (⟨"FacesOfLinesModel", "endsAt", "(I)I"⟩, 48)) (List.mem_of_getElem? (i := 52) (by decide +kernel))) rfl
theorem sl_53 : Cond.selects "FacesOfLinesModel" ⟨"FacesOfLinesModel", "tellPieces", "()I"⟩ ⟨"FacesOfLinesModel", "tellPieces", "()I"⟩ ∈ tbG := tbG_of (in_sl (q := (⟨"FacesOfLinesModel", "tellPieces", "()I"⟩, 48)) (List.mem_of_getElem? (i := 53) (by decide +kernel))) rfl
theorem sl_54 : Cond.selects "FacesOfLinesModel" ⟨"FacesOfLinesModel", "isPiece", "(II)Z"⟩ ⟨"FacesOfLinesModel", "isPiece", "(II)Z"⟩ ∈ tbG := tbG_of (in_sl (q := (⟨"FacesOfLinesModel", "isPiece", "(II)Z"⟩, 48)) (List.mem_of_getElem? (i := 54) (by decide +kernel))) rfl
theorem sl_55 : Cond.selects "FacesOfLinesModel" ⟨"FacesOfLinesModel", "isUpright", "(I)Z"⟩ ⟨"FacesOfLinesModel", "isUpright", "(I)Z"⟩ ∈ tbG := tbG_of (in_sl (q := (⟨"FacesOfLinesModel", "isUpright", "(I)Z"⟩, 48)) (List.mem_of_getElem? (i := 55) (by decide +kernel))) rfl
theorem sl_56 : Cond.selects "FacesOfLinesModel" ⟨"FacesOfLinesModel", "pointsOn", "(I)I"⟩ ⟨"FacesOfLinesModel", "pointsOn", "(I)I"⟩ ∈ tbG := tbG_of (in_sl (q := (⟨"FacesOfLinesModel", "pointsOn", "(I)I"⟩, 48)) (List.mem_of_getElem? (i := 56) (by decide +kernel))) rfl
theorem sl_57 : Cond.selects "FacesOfLinesModel" ⟨"FacesOfLinesModel", "tellHulls", "()I"⟩ ⟨"FacesOfLinesModel", "tellHulls", "()I"⟩ ∈ tbG := tbG_of (in_sl (q := (⟨"FacesOfLinesModel", "tellHulls", "()I"⟩, 48)) (List.mem_of_getElem? (i := 57) (by decide +kernel))) rfl
theorem sl_58 : Cond.selects "FacesOfLinesModel" ⟨"FacesOfLinesModel", "placeAt", "(II)I"⟩ ⟨"FacesOfLinesModel", "placeAt", "(II)I"⟩ ∈ tbG := tbG_of (in_sl (q := (⟨"FacesOfLinesModel", "placeAt", "(II)I"⟩, 48)) (List.mem_of_getElem? (i := 58) (by decide +kernel))) rfl
theorem sl_59 : Cond.selects "FacesOfLinesModel" ⟨"FacesOfLinesModel", "isSide", "(II)Z"⟩ ⟨"FacesOfLinesModel", "isSide", "(II)Z"⟩ ∈ tbG := tbG_of (in_sl (q := (⟨"FacesOfLinesModel", "isSide", "(II)Z"⟩, 48)) (List.mem_of_getElem? (i := 59) (by decide +kernel))) rfl
theorem sl_60 : Cond.selects "FacesOfLinesModel" ⟨"FacesOfLinesModel", "tellOrder", "(JJI)V"⟩ ⟨"FacesOfLinesModel", "tellOrder", "(JJI)V"⟩ ∈ tbG := tbG_of (in_sl (q := (⟨"FacesOfLinesModel", "tellOrder", "(JJI)V"⟩, 48)) (List.mem_of_getElem? (i := 60) (by decide +kernel))) rfl
theorem sl_61 : Cond.selects "FacesOfLinesModel" ⟨"FacesOfLinesModel", "isThere", "(IJJ)Z"⟩ ⟨"FacesOfLinesModel", "isThere", "(IJJ)Z"⟩ ∈ tbG := tbG_of (in_sl (q := (⟨"FacesOfLinesModel", "isThere", "(IJJ)Z"⟩, 48)) (List.mem_of_getElem? (i := 61) (by decide +kernel))) rfl
theorem sl_62 : Cond.selects "FacesOfLinesModel" ⟨"FacesOfLinesModel", "isAhead", "(IIJJ)Z"⟩ ⟨"FacesOfLinesModel", "isAhead", "(IIJJ)Z"⟩ ∈ tbG := tbG_of (in_sl (q := (⟨"FacesOfLinesModel", "isAhead", "(IIJJ)Z"⟩, 48)) (List.mem_of_getElem? (i := 62) (by decide +kernel))) rfl
theorem sl_63 : Cond.selects "FacesOfLinesModel" ⟨"FacesOfLinesModel", "yAbove", "(IJJ)J"⟩ ⟨"FacesOfLinesModel", "yAbove", "(IJJ)J"⟩ ∈ tbG := tbG_of (in_sl (q := (⟨"FacesOfLinesModel", "yAbove", "(IJJ)J"⟩, 48)) (List.mem_of_getElem? (i := 63) (by decide +kernel))) rfl
theorem sl_64 : Cond.selects "FacesOfLinesModel" ⟨"FacesOfLinesModel", "yBelow", "(IJ)J"⟩ ⟨"FacesOfLinesModel", "yBelow", "(IJ)J"⟩ ∈ tbG := tbG_of (in_sl (q := (⟨"FacesOfLinesModel", "yBelow", "(IJ)J"⟩, 48)) (List.mem_of_getElem? (i := 64) (by decide +kernel))) rfl
theorem sl_65 : Cond.selects "FacesOfLinesModel" ⟨"FacesOfLinesModel", "tellSheet", "()V"⟩ ⟨"FacesOfLinesModel", "tellSheet", "()V"⟩ ∈ tbG := tbG_of (in_sl (q := (⟨"FacesOfLinesModel", "tellSheet", "()V"⟩, 48)) (List.mem_of_getElem? (i := 65) (by decide +kernel))) rfl
theorem sl_66 : Cond.selects "FacesOfLinesModel" ⟨"FacesOfLinesModel", "addCell", "(III)V"⟩ ⟨"FacesOfLinesModel", "addCell", "(III)V"⟩ ∈ tbG := tbG_of (in_sl (q := (⟨"FacesOfLinesModel", "addCell", "(III)V"⟩, 48)) (List.mem_of_getElem? (i := 66) (by decide +kernel))) rfl
theorem sl_67 : Cond.selects "FacesOfLinesModel" ⟨"FacesOfLinesModel", "cut", "(I)V"⟩ ⟨"FacesOfLinesModel", "cut", "(I)V"⟩ ∈ tbG := tbG_of (in_sl (q := (⟨"FacesOfLinesModel", "cut", "(I)V"⟩, 48)) (List.mem_of_getElem? (i := 67) (by decide +kernel))) rfl
theorem sl_68 : Cond.selects "FacesOfLinesModel" ⟨"FacesOfLinesModel", "againstThrough", "(III)I"⟩ ⟨"FacesOfLinesModel", "againstThrough", "(III)I"⟩ ∈ tbG := tbG_of (in_sl (q := (⟨"FacesOfLinesModel", "againstThrough", "(III)I"⟩, 48)) (List.mem_of_getElem? (i := 68) (by decide +kernel))) rfl
theorem sl_69 : Cond.selects "FacesOfLinesModel" ⟨"FacesOfLinesModel", "joinCells", "()V"⟩ ⟨"FacesOfLinesModel", "joinCells", "()V"⟩ ∈ tbG := tbG_of (in_sl (q := (⟨"FacesOfLinesModel", "joinCells", "()V"⟩, 48)) (List.mem_of_getElem? (i := 69) (by decide +kernel))) rfl
theorem sl_70 : Cond.selects "FacesOfLinesModel" ⟨"FacesOfLinesModel", "wide", "()V"⟩ ⟨"FacesOfLinesModel", "wide", "()V"⟩ ∈ tbG := tbG_of (in_sl (q := (⟨"FacesOfLinesModel", "wide", "()V"⟩, 48)) (List.mem_of_getElem? (i := 70) (by decide +kernel))) rfl
theorem sl_71 : Cond.selects "FacesOfLinesModel" ⟨"FacesOfLinesModel", "narrow", "(IJJ)V"⟩ ⟨"FacesOfLinesModel", "narrow", "(IJJ)V"⟩ ∈ tbG := tbG_of (in_sl (q := (⟨"FacesOfLinesModel", "narrow", "(IJJ)V"⟩, 48)) (List.mem_of_getElem? (i := 71) (by decide +kernel))) rfl
theorem sl_72 : Cond.selects "FacesOfLinesModel" ⟨"FacesOfLinesModel", "isMoreThanOne", "()Z"⟩ ⟨"FacesOfLinesModel", "isMoreThanOne", "()Z"⟩ ∈ tbG := tbG_of (in_sl (q := (⟨"FacesOfLinesModel", "isMoreThanOne", "()Z"⟩, 48)) (List.mem_of_getElem? (i := 72) (by decide +kernel))) rfl
theorem sl_73 : Cond.selects "FacesOfLinesModel" ⟨"FacesOfLinesModel", "isOpen", "(JJ)Z"⟩ ⟨"FacesOfLinesModel", "isOpen", "(JJ)Z"⟩ ∈ tbG := tbG_of (in_sl (q := (⟨"FacesOfLinesModel", "isOpen", "(JJ)Z"⟩, 48)) (List.mem_of_getElem? (i := 73) (by decide +kernel))) rfl
theorem sl_74 : Cond.selects "FacesOfLinesModel" ⟨"FacesOfLinesModel", "isUprightAt", "(IJJ)Z"⟩ ⟨"FacesOfLinesModel", "isUprightAt", "(IJJ)Z"⟩ ∈ tbG := tbG_of (in_sl (q := (⟨"FacesOfLinesModel", "isUprightAt", "(IJJ)Z"⟩, 48)) (List.mem_of_getElem? (i := 74) (by decide +kernel))) rfl
theorem sl_75 : Cond.selects "FacesOfLinesModel" ⟨"FacesOfLinesModel", "borders", "(I)I"⟩ ⟨"FacesOfLinesModel", "borders", "(I)I"⟩ ∈ tbG := tbG_of (in_sl (q := (⟨"FacesOfLinesModel", "borders", "(I)I"⟩, 48)) (List.mem_of_getElem? (i := 75) (by decide +kernel))) rfl
theorem sl_76 : Cond.selects "FacesOfLinesModel" ⟨"FacesOfLinesModel", "bordersAt", "(II)I"⟩ ⟨"FacesOfLinesModel", "bordersAt", "(II)I"⟩ ∈ tbG := tbG_of (in_sl (q := (⟨"FacesOfLinesModel", "bordersAt", "(II)I"⟩, 48)) (List.mem_of_getElem? (i := 76) (by decide +kernel))) rfl
theorem sl_77 : Cond.selects "FacesOfLinesModel" ⟨"FacesOfLinesModel", "hasMore", "(I)Z"⟩ ⟨"FacesOfLinesModel", "hasMore", "(I)Z"⟩ ∈ tbG := tbG_of (in_sl (q := (⟨"FacesOfLinesModel", "hasMore", "(I)Z"⟩, 48)) (List.mem_of_getElem? (i := 77) (by decide +kernel))) rfl
theorem sl_78 : Cond.selects "FacesOfLinesModel" ⟨"FacesOfLinesModel", "nextTo", "(I)I"⟩ ⟨"FacesOfLinesModel", "nextTo", "(I)I"⟩ ∈ tbG := tbG_of (in_sl (q := (⟨"FacesOfLinesModel", "nextTo", "(I)I"⟩, 48)) (List.mem_of_getElem? (i := 78) (by decide +kernel))) rfl
theorem sl_79 : Cond.selects "FacesOfLinesModel" ⟨"FacesOfLinesModel", "tellNext", "()V"⟩ ⟨"FacesOfLinesModel", "tellNext", "()V"⟩ ∈ tbG := tbG_of (in_sl (q := (⟨"FacesOfLinesModel", "tellNext", "()V"⟩, 48)) (List.mem_of_getElem? (i := 79) (by decide +kernel))) rfl
theorem sl_80 : Cond.selects "FacesOfLinesModel" ⟨"FacesOfLinesModel", "isNext", "(II)V"⟩ ⟨"FacesOfLinesModel", "isNext", "(II)V"⟩ ∈ tbG := tbG_of (in_sl (q := (⟨"FacesOfLinesModel", "isNext", "(II)V"⟩, 48)) (List.mem_of_getElem? (i := 80) (by decide +kernel))) rfl
theorem sl_81 : Cond.selects "FacesOfLinesModel" ⟨"FacesOfLinesModel", "partsMany", "()I"⟩ ⟨"FacesOfLinesModel", "partsMany", "()I"⟩ ∈ tbG := tbG_of (in_sl (q := (⟨"FacesOfLinesModel", "partsMany", "()I"⟩, 48)) (List.mem_of_getElem? (i := 81) (by decide +kernel))) rfl
theorem sl_82 : Cond.selects "FacesOfLinesModel" ⟨"FacesOfLinesModel", "twos", "(I)I"⟩ ⟨"FacesOfLinesModel", "twos", "(I)I"⟩ ∈ tbG := tbG_of (in_sl (q := (⟨"FacesOfLinesModel", "twos", "(I)I"⟩, 48)) (List.mem_of_getElem? (i := 82) (by decide +kernel))) rfl
theorem sl_83 : Cond.selects "FacesOfLinesModel" ⟨"FacesOfLinesModel", "facesWithout", "(I)I"⟩ ⟨"FacesOfLinesModel", "facesWithout", "(I)I"⟩ ∈ tbG := tbG_of (in_sl (q := (⟨"FacesOfLinesModel", "facesWithout", "(I)I"⟩, 48)) (List.mem_of_getElem? (i := 83) (by decide +kernel))) rfl
theorem sl_84 : Cond.selects "FacesOfLinesModel" ⟨"FacesOfLinesModel", "keep", "(I)V"⟩ ⟨"FacesOfLinesModel", "keep", "(I)V"⟩ ∈ tbG := tbG_of (in_sl (q := (⟨"FacesOfLinesModel", "keep", "(I)V"⟩, 48)) (List.mem_of_getElem? (i := 84) (by decide +kernel))) rfl
theorem sl_85 : Cond.selects "FacesOfLinesModel" ⟨"FacesOfLinesModel", "endRow", "(I)[I"⟩ ⟨"FacesOfLinesModel", "endRow", "(I)[I"⟩ ∈ tbG := tbG_of (in_sl (q := (⟨"FacesOfLinesModel", "endRow", "(I)[I"⟩, 48)) (List.mem_of_getElem? (i := 85) (by decide +kernel))) rfl
theorem sl_86 : Cond.selects "FacesOfLinesModel" ⟨"FacesOfLinesModel", "facesNow", "()I"⟩ ⟨"FacesOfLinesModel", "facesNow", "()I"⟩ ∈ tbG := tbG_of (in_sl (q := (⟨"FacesOfLinesModel", "facesNow", "()I"⟩, 48)) (List.mem_of_getElem? (i := 86) (by decide +kernel))) rfl
theorem sl_87 : Cond.selects "FacesOfLinesModel" ⟨"FacesOfLinesModel", "layBack", "(I)V"⟩ ⟨"FacesOfLinesModel", "layBack", "(I)V"⟩ ∈ tbG := tbG_of (in_sl (q := (⟨"FacesOfLinesModel", "layBack", "(I)V"⟩, 48)) (List.mem_of_getElem? (i := 87) (by decide +kernel))) rfl
theorem sl_88 : Cond.selects "FacesOfLinesModel" ⟨"FacesOfLinesModel", "byLot", "(II)I"⟩ ⟨"FacesOfLinesModel", "byLot", "(II)I"⟩ ∈ tbG := tbG_of (in_sl (q := (⟨"FacesOfLinesModel", "byLot", "(II)I"⟩, 48)) (List.mem_of_getElem? (i := 88) (by decide +kernel))) rfl
theorem sl_89 : Cond.selects "FacesOfLinesModel" ⟨"FacesOfLinesModel", "draw", "()I"⟩ ⟨"FacesOfLinesModel", "draw", "()I"⟩ ∈ tbG := tbG_of (in_sl (q := (⟨"FacesOfLinesModel", "draw", "()I"⟩, 48)) (List.mem_of_getElem? (i := 89) (by decide +kernel))) rfl
theorem sl_90 : Cond.selects "FacesOfLinesModel" ⟨"FacesOfLinesModel", "otherwise", "(III)I"⟩ ⟨"FacesOfLinesModel", "otherwise", "(III)I"⟩ ∈ tbG := tbG_of (in_sl (q := (⟨"FacesOfLinesModel", "otherwise", "(III)I"⟩, 48)) (List.mem_of_getElem? (i := 90) (by decide +kernel))) rfl
theorem sh_0 : shp 0 = (0, 9) := by decide +kernel
theorem sh_1 : shp 1 = (0, 2) := by decide +kernel
theorem sh_2 : shp 2 = (1, 10) := by decide +kernel
theorem sh_3 : shp 3 = (1, 10) := by decide +kernel
theorem sh_4 : shp 4 = (1, 10) := by decide +kernel
theorem sh_5 : shp 5 = (1, 10) := by decide +kernel
theorem sh_6 : shp 6 = (0, 2) := by decide +kernel
theorem sh_7 : shp 7 = (1, 10) := by decide +kernel
theorem sh_8 : shp 8 = (1, 10) := by decide +kernel
theorem sh_9 : shp 9 = (1, 10) := by decide +kernel
theorem sh_10 : shp 10 = (1, 10) := by decide +kernel
theorem sh_11 : shp 11 = (0, 2) := by decide +kernel
theorem sh_12 : shp 12 = (1, 10) := by decide +kernel
theorem sh_13 : shp 13 = (1, 10) := by decide +kernel
theorem sh_14 : shp 14 = (1, 10) := by decide +kernel
theorem sh_15 : shp 15 = (1, 10) := by decide +kernel
theorem sh_16 : shp 16 = (0, 4) := by decide +kernel
theorem sh_17 : shp 17 = (2, 65) := by decide +kernel
theorem sh_18 : shp 18 = (2, 65) := by decide +kernel
theorem sh_19 : shp 19 = (2, 65) := by decide +kernel
theorem sh_20 : shp 20 = (2, 65) := by decide +kernel
theorem sh_21 : shp 21 = (1, 65) := by decide +kernel
theorem sh_22 : shp 22 = (1, 65) := by decide +kernel
theorem sh_23 : shp 23 = (1, 4) := by decide +kernel
theorem sh_24 : shp 24 = (0, 3) := by decide +kernel
theorem sh_25 : shp 25 = (0, 4) := by decide +kernel
theorem sh_26 : shp 26 = (2, 65) := by decide +kernel
theorem sh_27 : shp 27 = (2, 65) := by decide +kernel
theorem sh_28 : shp 28 = (2, 65) := by decide +kernel
theorem sh_29 : shp 29 = (2, 65) := by decide +kernel
theorem sh_30 : shp 30 = (1, 65) := by decide +kernel
theorem sh_31 : shp 31 = (1, 65) := by decide +kernel
theorem sh_32 : shp 32 = (1, 4) := by decide +kernel
theorem sh_33 : shp 33 = (0, 3) := by decide +kernel
theorem sh_34 : shp 34 = (0, 3) := by decide +kernel
theorem sh_35 : shp 35 = (0, 7) := by decide +kernel
theorem sh_36 : shp 36 = (1, 10) := by decide +kernel
theorem sh_37 : shp 37 = (2, 10) := by decide +kernel
theorem sh_38 : shp 38 = (0, 6) := by decide +kernel
theorem sh_39 : shp 39 = (2, 65) := by decide +kernel
theorem sh_40 : shp 40 = (2, 65) := by decide +kernel
theorem sh_41 : shp 41 = (1, 67) := by decide +kernel
theorem sh_42 : shp 42 = (1, 726) := by decide +kernel
theorem sh_43 : shp 43 = (1, 726) := by decide +kernel
theorem sh_44 : shp 44 = (1, 726) := by decide +kernel
theorem sh_45 : shp 45 = (0, 8) := by decide +kernel
theorem sh_46 : shp 46 = (1, 725) := by decide +kernel
theorem sh_47 : shp 47 = (1, 725) := by decide +kernel
theorem sh_48 : shp 48 = (1, 725) := by decide +kernel
theorem sh_49 : shp 49 = (2, 20) := by decide +kernel
theorem sh_50 : shp 50 = (2, 20) := by decide +kernel
theorem sh_51 : shp 51 = (1, 10) := by decide +kernel
theorem sh_52 : shp 52 = (1, 10) := by decide +kernel
theorem sh_53 : shp 53 = (0, 0) := by decide +kernel
theorem sh_54 : shp 54 = (1, 726) := by decide +kernel
theorem sh_55 : shp 55 = (1, 726) := by decide +kernel
theorem sh_56 : shp 56 = (1, 64) := by decide +kernel
theorem sh_57 : shp 57 = (1, 64) := by decide +kernel
theorem sh_58 : shp 58 = (1, 64) := by decide +kernel
theorem sh_59 : shp 59 = (2, 64) := by decide +kernel
theorem sh_60 : shp 60 = (0, 1) := by decide +kernel
theorem sh_61 : shp 61 = (1, 20) := by decide +kernel
theorem sh_62 : shp 62 = (1, 20) := by decide +kernel
theorem sh_63 : shp 63 = (1, 20) := by decide +kernel
theorem sh_64 : shp 64 = (0, 5) := by decide +kernel
theorem sh_65 : shp 65 = (1, 4) := by decide +kernel
theorem sh_66 : shp 66 = (1, 4) := by decide +kernel
theorem sh_67 : shp 67 = (1, 160) := by decide +kernel
theorem sh_68 : shp 68 = (0, 10) := by decide +kernel
theorem sh_69 : shp 69 = (1, 10) := by decide +kernel
theorem sh_70 : shp 70 = (1, 10) := by decide +kernel
theorem sh_71 : shp 71 = (1, 10) := by decide +kernel
theorem sh_72 : shp 72 = (1, 10) := by decide +kernel
theorem sh_73 : shp 73 = (2, 80) := by decide +kernel
theorem sh_74 : shp 74 = (2, 80) := by decide +kernel
theorem sh_75 : shp 75 = (2, 80) := by decide +kernel
theorem sh_76 : shp 76 = (2, 80) := by decide +kernel
theorem sh_77 : shp 77 = (1, 80) := by decide +kernel
theorem sh_78 : shp 78 = (1, 20) := by decide +kernel
theorem sh_79 : shp 79 = (1, 20) := by decide +kernel
theorem sh_80 : shp 80 = (1, 20) := by decide +kernel
theorem sh_81 : shp 81 = (3, 20) := by decide +kernel
theorem sh_82 : shp 82 = (1, 10) := by decide +kernel
theorem sh_83 : shp 83 = (2, 81) := by decide +kernel
theorem sh_84 : shp 84 = (2, 81) := by decide +kernel
theorem sh_85 : shp 85 = (1, 82) := by decide +kernel
theorem sh_86 : shp 86 = (1, 900) := by decide +kernel
theorem sh_87 : shp 87 = (1, 900) := by decide +kernel
theorem sh_88 : shp 88 = (1, 900) := by decide +kernel
theorem sh_89 : shp 89 = (1, 900) := by decide +kernel
theorem sh_90 : shp 90 = (1, 10) := by decide +kernel
theorem sh_91 : shp 91 = (1, 900) := by decide +kernel
theorem sh_92 : shp 92 = (5, 80) := by decide +kernel
theorem sh_173 : shp 173 = (1, 900) := by decide +kernel
theorem sh_174 : shp 174 = (1, 2) := by decide +kernel
theorem sh_175 : shp 175 = (4, 8) := by decide +kernel
theorem sh_184 : shp 184 = (1, 4) := by decide +kernel
theorem sh_185 : shp 185 = (1, 4) := by decide +kernel
theorem sh_186 : shp 186 = (4, 4) := by decide +kernel
theorem sh_191 : shp 191 = (1, 40) := by decide +kernel
theorem sr_92 {i : Int} (h : 0 ≤ i ∧ i < 80) : shp (93 + i.toNat) = (3, 80) := (show ∀ k, k < 80 → shp (93 + k) = (3, 80) by decide +kernel) i.toNat (by omega)
theorem rr_92 {i : Int} (h : 0 ≤ i ∧ i < 80) : rf 92 i.toNat = ((93 + i.toNat : Nat) : Int).toNat := (show ∀ k, k < 80 → rf 92 k = 93 + k by decide +kernel) i.toNat (by omega)
theorem sr_175 {i : Int} (h : 0 ≤ i ∧ i < 8) : shp (176 + i.toNat) = (1, 10) := (show ∀ k, k < 8 → shp (176 + k) = (1, 10) by decide +kernel) i.toNat (by omega)
theorem rr_175 {i : Int} (h : 0 ≤ i ∧ i < 8) : rf 175 i.toNat = ((176 + i.toNat : Nat) : Int).toNat := (show ∀ k, k < 8 → rf 175 k = 176 + k by decide +kernel) i.toNat (by omega)
theorem sr_186 {i : Int} (h : 0 ≤ i ∧ i < 4) : shp (187 + i.toNat) = (1, 40) := (show ∀ k, k < 4 → shp (187 + k) = (1, 40) by decide +kernel) i.toNat (by omega)
theorem rr_186 {i : Int} (h : 0 ≤ i ∧ i < 4) : rf 186 i.toNat = ((187 + i.toNat : Nat) : Int).toNat := (show ∀ k, k < 4 → rf 186 k = 187 + k by decide +kernel) i.toNat (by omega)
theorem f_RX0_15 : FG RX0 15 0 2 ∧ fty 0 2 = 2 ∧ 2 < nfs 0 := ⟨⟨RX0, TX0, 7, rfl, by decide, wf_0, rfl, (Or.inl q_274)⟩, by decide, by decide⟩
theorem f_RX0_18 : FG RX0 18 0 3 ∧ fty 0 3 = 2 ∧ 3 < nfs 0 := ⟨⟨RX0, TX0, 7, rfl, by decide, wf_0, rfl, (Or.inl q_276)⟩, by decide, by decide⟩
theorem f_RX0_21 : FG RX0 21 0 4 ∧ fty 0 4 = 2 ∧ 4 < nfs 0 := ⟨⟨RX0, TX0, 7, rfl, by decide, wf_0, rfl, (Or.inl q_278)⟩, by decide, by decide⟩
theorem f_RX0_24 : FG RX0 24 0 5 ∧ fty 0 5 = 2 ∧ 5 < nfs 0 := ⟨⟨RX0, TX0, 7, rfl, by decide, wf_0, rfl, (Or.inl q_280)⟩, by decide, by decide⟩
theorem f_RX0_27 : FG RX0 27 0 6 ∧ fty 0 6 = 2 ∧ 6 < nfs 0 := ⟨⟨RX0, TX0, 7, rfl, by decide, wf_0, rfl, (Or.inl q_282)⟩, by decide, by decide⟩
theorem f_RX0_31 : FG RX0 31 6 1 ∧ fty 6 1 = 0 ∧ 1 < nfs 6 := ⟨⟨RX6, TX6, 8, rfl, by decide, wf_6, rfl, (Or.inr ⟨_, q_189⟩)⟩, by decide, by decide⟩
theorem f_RX0_36 : FG RX0 36 8 0 ∧ fty 8 0 = 0 ∧ 0 < nfs 8 := ⟨⟨RX8, TX8, 9, rfl, by decide, wf_8, rfl, (Or.inr ⟨_, q_234⟩)⟩, by decide, by decide⟩
theorem f_RX0_41 : FG RX0 41 8 3 ∧ fty 8 3 = 2 ∧ 3 < nfs 8 := ⟨⟨RX8, TX8, 9, rfl, by decide, wf_8, rfl, (Or.inr ⟨_, q_240⟩)⟩, by decide, by decide⟩
theorem f_RX0_44 : FG RX0 44 8 1 ∧ fty 8 1 = 2 ∧ 1 < nfs 8 := ⟨⟨RX8, TX8, 9, rfl, by decide, wf_8, rfl, (Or.inr ⟨_, q_236⟩)⟩, by decide, by decide⟩
theorem f_RX0_47 : FG RX0 47 8 2 ∧ fty 8 2 = 2 ∧ 2 < nfs 8 := ⟨⟨RX8, TX8, 9, rfl, by decide, wf_8, rfl, (Or.inr ⟨_, q_238⟩)⟩, by decide, by decide⟩
theorem f_RX0_79 : FG RX0 79 0 0 ∧ fty 0 0 = 0 ∧ 0 < nfs 0 := ⟨⟨RX0, TX0, 7, rfl, by decide, wf_0, rfl, (Or.inl q_271)⟩, by decide, by decide⟩
theorem f_RX0_80 : FG RX0 80 6 6 ∧ fty 6 6 = 2 ∧ 6 < nfs 6 := ⟨⟨RX6, TX6, 8, rfl, by decide, wf_6, rfl, (Or.inr ⟨_, q_204⟩)⟩, by decide, by decide⟩
theorem f_RX0_83 : FG RX0 83 6 7 ∧ fty 6 7 = 2 ∧ 7 < nfs 6 := ⟨⟨RX6, TX6, 8, rfl, by decide, wf_6, rfl, (Or.inr ⟨_, q_208⟩)⟩, by decide, by decide⟩
theorem f_RX0_9 : FG RX0 9 0 1 ∧ fty 0 1 = 2 ∧ 1 < nfs 0 := ⟨⟨RX0, TX0, 7, rfl, by decide, wf_0, rfl, (Or.inl q_273)⟩, by decide, by decide⟩
theorem f_RX10_100 : FG RX10 100 10 45 ∧ fty 10 45 = 2 ∧ 45 < nfs 10 := ⟨⟨RX10, TX10, 48, rfl, by decide, wf_10, rfl, (Or.inl q_931)⟩, by decide, by decide⟩
theorem f_RX10_103 : FG RX10 103 10 46 ∧ fty 10 46 = 2 ∧ 46 < nfs 10 := ⟨⟨RX10, TX10, 48, rfl, by decide, wf_10, rfl, (Or.inl q_932)⟩, by decide, by decide⟩
theorem f_RX10_106 : FG RX10 106 10 47 ∧ fty 10 47 = 2 ∧ 47 < nfs 10 := ⟨⟨RX10, TX10, 48, rfl, by decide, wf_10, rfl, (Or.inl q_933)⟩, by decide, by decide⟩
theorem f_RX10_109 : FG RX10 109 10 0 ∧ fty 10 0 = 0 ∧ 0 < nfs 10 := ⟨⟨RX10, TX10, 48, rfl, by decide, wf_10, rfl, (Or.inl q_886)⟩, by decide, by decide⟩
theorem f_RX10_13 : FG RX10 13 10 2 ∧ fty 10 2 = 2 ∧ 2 < nfs 10 := ⟨⟨RX10, TX10, 48, rfl, by decide, wf_10, rfl, (Or.inl q_888)⟩, by decide, by decide⟩
theorem f_RX10_140 : FG RX10 140 10 5 ∧ fty 10 5 = 0 ∧ 5 < nfs 10 := ⟨⟨RX10, TX10, 48, rfl, by decide, wf_10, rfl, (Or.inl q_891)⟩, by decide, by decide⟩
theorem f_RX10_143 : FG RX10 143 10 6 ∧ fty 10 6 = 1 ∧ 6 < nfs 10 := ⟨⟨RX10, TX10, 48, rfl, by decide, wf_10, rfl, (Or.inl q_892)⟩, by decide, by decide⟩
theorem f_RX10_147 : FG RX10 147 10 7 ∧ fty 10 7 = 1 ∧ 7 < nfs 10 := ⟨⟨RX10, TX10, 48, rfl, by decide, wf_10, rfl, (Or.inl q_893)⟩, by decide, by decide⟩
theorem f_RX10_150 : FG RX10 150 10 8 ∧ fty 10 8 = 1 ∧ 8 < nfs 10 := ⟨⟨RX10, TX10, 48, rfl, by decide, wf_10, rfl, (Or.inl q_894)⟩, by decide, by decide⟩
theorem f_RX10_16 : FG RX10 16 10 3 ∧ fty 10 3 = 2 ∧ 3 < nfs 10 := ⟨⟨RX10, TX10, 48, rfl, by decide, wf_10, rfl, (Or.inl q_889)⟩, by decide, by decide⟩
theorem f_RX10_176 : FG RX10 176 10 9 ∧ fty 10 9 = 0 ∧ 9 < nfs 10 := ⟨⟨RX10, TX10, 48, rfl, by decide, wf_10, rfl, (Or.inl q_895)⟩, by decide, by decide⟩
theorem f_RX10_19 : FG RX10 19 10 4 ∧ fty 10 4 = 2 ∧ 4 < nfs 10 := ⟨⟨RX10, TX10, 48, rfl, by decide, wf_10, rfl, (Or.inl q_890)⟩, by decide, by decide⟩
theorem f_RX10_22 : FG RX10 22 10 10 ∧ fty 10 10 = 2 ∧ 10 < nfs 10 := ⟨⟨RX10, TX10, 48, rfl, by decide, wf_10, rfl, (Or.inl q_896)⟩, by decide, by decide⟩
theorem f_RX10_221 : FG RX10 221 10 15 ∧ fty 10 15 = 0 ∧ 15 < nfs 10 := ⟨⟨RX10, TX10, 48, rfl, by decide, wf_10, rfl, (Or.inl q_901)⟩, by decide, by decide⟩
theorem f_RX10_247 : FG RX10 247 10 20 ∧ fty 10 20 = 0 ∧ 20 < nfs 10 := ⟨⟨RX10, TX10, 48, rfl, by decide, wf_10, rfl, (Or.inl q_906)⟩, by decide, by decide⟩
theorem f_RX10_26 : FG RX10 26 10 11 ∧ fty 10 11 = 2 ∧ 11 < nfs 10 := ⟨⟨RX10, TX10, 48, rfl, by decide, wf_10, rfl, (Or.inl q_897)⟩, by decide, by decide⟩
theorem f_RX10_267 : FG RX10 267 10 23 ∧ fty 10 23 = 0 ∧ 23 < nfs 10 := ⟨⟨RX10, TX10, 48, rfl, by decide, wf_10, rfl, (Or.inl q_909)⟩, by decide, by decide⟩
theorem f_RX10_278 : FG RX10 278 10 22 ∧ fty 10 22 = 0 ∧ 22 < nfs 10 := ⟨⟨RX10, TX10, 48, rfl, by decide, wf_10, rfl, (Or.inl q_908)⟩, by decide, by decide⟩
theorem f_RX10_29 : FG RX10 29 10 12 ∧ fty 10 12 = 2 ∧ 12 < nfs 10 := ⟨⟨RX10, TX10, 48, rfl, by decide, wf_10, rfl, (Or.inl q_898)⟩, by decide, by decide⟩
theorem f_RX10_290 : FG RX10 290 10 33 ∧ fty 10 33 = 1 ∧ 33 < nfs 10 := ⟨⟨RX10, TX10, 48, rfl, by decide, wf_10, rfl, (Or.inl q_919)⟩, by decide, by decide⟩
theorem f_RX10_293 : FG RX10 293 10 34 ∧ fty 10 34 = 1 ∧ 34 < nfs 10 := ⟨⟨RX10, TX10, 48, rfl, by decide, wf_10, rfl, (Or.inl q_920)⟩, by decide, by decide⟩
theorem f_RX10_296 : FG RX10 296 10 35 ∧ fty 10 35 = 1 ∧ 35 < nfs 10 := ⟨⟨RX10, TX10, 48, rfl, by decide, wf_10, rfl, (Or.inl q_921)⟩, by decide, by decide⟩
theorem f_RX10_299 : FG RX10 299 10 36 ∧ fty 10 36 = 1 ∧ 36 < nfs 10 := ⟨⟨RX10, TX10, 48, rfl, by decide, wf_10, rfl, (Or.inl q_922)⟩, by decide, by decide⟩
theorem f_RX10_32 : FG RX10 32 10 13 ∧ fty 10 13 = 2 ∧ 13 < nfs 10 := ⟨⟨RX10, TX10, 48, rfl, by decide, wf_10, rfl, (Or.inl q_899)⟩, by decide, by decide⟩
theorem f_RX10_324 : FG RX10 324 10 24 ∧ fty 10 24 = 0 ∧ 24 < nfs 10 := ⟨⟨RX10, TX10, 48, rfl, by decide, wf_10, rfl, (Or.inl q_910)⟩, by decide, by decide⟩
theorem f_RX10_35 : FG RX10 35 10 14 ∧ fty 10 14 = 2 ∧ 14 < nfs 10 := ⟨⟨RX10, TX10, 48, rfl, by decide, wf_10, rfl, (Or.inl q_900)⟩, by decide, by decide⟩
theorem f_RX10_379 : FG RX10 379 10 42 ∧ fty 10 42 = 0 ∧ 42 < nfs 10 := ⟨⟨RX10, TX10, 48, rfl, by decide, wf_10, rfl, (Or.inl q_928)⟩, by decide, by decide⟩
theorem f_RX10_38 : FG RX10 38 10 16 ∧ fty 10 16 = 2 ∧ 16 < nfs 10 := ⟨⟨RX10, TX10, 48, rfl, by decide, wf_10, rfl, (Or.inl q_902)⟩, by decide, by decide⟩
theorem f_RX10_398 : FG RX10 398 10 43 ∧ fty 10 43 = 0 ∧ 43 < nfs 10 := ⟨⟨RX10, TX10, 48, rfl, by decide, wf_10, rfl, (Or.inl q_929)⟩, by decide, by decide⟩
theorem f_RX10_41 : FG RX10 41 10 17 ∧ fty 10 17 = 2 ∧ 17 < nfs 10 := ⟨⟨RX10, TX10, 48, rfl, by decide, wf_10, rfl, (Or.inl q_903)⟩, by decide, by decide⟩
theorem f_RX10_44 : FG RX10 44 10 18 ∧ fty 10 18 = 2 ∧ 18 < nfs 10 := ⟨⟨RX10, TX10, 48, rfl, by decide, wf_10, rfl, (Or.inl q_904)⟩, by decide, by decide⟩
theorem f_RX10_47 : FG RX10 47 10 19 ∧ fty 10 19 = 2 ∧ 19 < nfs 10 := ⟨⟨RX10, TX10, 48, rfl, by decide, wf_10, rfl, (Or.inl q_905)⟩, by decide, by decide⟩
theorem f_RX10_51 : FG RX10 51 10 21 ∧ fty 10 21 = 2 ∧ 21 < nfs 10 := ⟨⟨RX10, TX10, 48, rfl, by decide, wf_10, rfl, (Or.inl q_907)⟩, by decide, by decide⟩
theorem f_RX10_54 : FG RX10 54 10 25 ∧ fty 10 25 = 2 ∧ 25 < nfs 10 := ⟨⟨RX10, TX10, 48, rfl, by decide, wf_10, rfl, (Or.inl q_911)⟩, by decide, by decide⟩
theorem f_RX10_57 : FG RX10 57 10 26 ∧ fty 10 26 = 2 ∧ 26 < nfs 10 := ⟨⟨RX10, TX10, 48, rfl, by decide, wf_10, rfl, (Or.inl q_912)⟩, by decide, by decide⟩
theorem f_RX10_60 : FG RX10 60 10 27 ∧ fty 10 27 = 2 ∧ 27 < nfs 10 := ⟨⟨RX10, TX10, 48, rfl, by decide, wf_10, rfl, (Or.inl q_913)⟩, by decide, by decide⟩
theorem f_RX10_63 : FG RX10 63 10 28 ∧ fty 10 28 = 2 ∧ 28 < nfs 10 := ⟨⟨RX10, TX10, 48, rfl, by decide, wf_10, rfl, (Or.inl q_914)⟩, by decide, by decide⟩
theorem f_RX10_66 : FG RX10 66 10 29 ∧ fty 10 29 = 2 ∧ 29 < nfs 10 := ⟨⟨RX10, TX10, 48, rfl, by decide, wf_10, rfl, (Or.inl q_915)⟩, by decide, by decide⟩
theorem f_RX10_69 : FG RX10 69 10 30 ∧ fty 10 30 = 2 ∧ 30 < nfs 10 := ⟨⟨RX10, TX10, 48, rfl, by decide, wf_10, rfl, (Or.inl q_916)⟩, by decide, by decide⟩
theorem f_RX10_72 : FG RX10 72 10 31 ∧ fty 10 31 = 2 ∧ 31 < nfs 10 := ⟨⟨RX10, TX10, 48, rfl, by decide, wf_10, rfl, (Or.inl q_917)⟩, by decide, by decide⟩
theorem f_RX10_75 : FG RX10 75 10 32 ∧ fty 10 32 = 2 ∧ 32 < nfs 10 := ⟨⟨RX10, TX10, 48, rfl, by decide, wf_10, rfl, (Or.inl q_918)⟩, by decide, by decide⟩
theorem f_RX10_78 : FG RX10 78 10 37 ∧ fty 10 37 = 2 ∧ 37 < nfs 10 := ⟨⟨RX10, TX10, 48, rfl, by decide, wf_10, rfl, (Or.inl q_923)⟩, by decide, by decide⟩
theorem f_RX10_83 : FG RX10 83 10 38 ∧ fty 10 38 = 2 ∧ 38 < nfs 10 := ⟨⟨RX10, TX10, 48, rfl, by decide, wf_10, rfl, (Or.inl q_924)⟩, by decide, by decide⟩
theorem f_RX10_86 : FG RX10 86 10 39 ∧ fty 10 39 = 2 ∧ 39 < nfs 10 := ⟨⟨RX10, TX10, 48, rfl, by decide, wf_10, rfl, (Or.inl q_925)⟩, by decide, by decide⟩
theorem f_RX10_89 : FG RX10 89 10 40 ∧ fty 10 40 = 2 ∧ 40 < nfs 10 := ⟨⟨RX10, TX10, 48, rfl, by decide, wf_10, rfl, (Or.inl q_926)⟩, by decide, by decide⟩
theorem f_RX10_9 : FG RX10 9 10 1 ∧ fty 10 1 = 2 ∧ 1 < nfs 10 := ⟨⟨RX10, TX10, 48, rfl, by decide, wf_10, rfl, (Or.inl q_887)⟩, by decide, by decide⟩
theorem f_RX10_94 : FG RX10 94 10 41 ∧ fty 10 41 = 2 ∧ 41 < nfs 10 := ⟨⟨RX10, TX10, 48, rfl, by decide, wf_10, rfl, (Or.inl q_927)⟩, by decide, by decide⟩
theorem f_RX10_97 : FG RX10 97 10 44 ∧ fty 10 44 = 2 ∧ 44 < nfs 10 := ⟨⟨RX10, TX10, 48, rfl, by decide, wf_10, rfl, (Or.inl q_930)⟩, by decide, by decide⟩
theorem f_RX1_15 : FG RX1 15 1 3 ∧ fty 1 3 = 2 ∧ 3 < nfs 1 := ⟨⟨RX1, TX1, 5, rfl, by decide, wf_1, rfl, (Or.inl q_309)⟩, by decide, by decide⟩
theorem f_RX1_18 : FG RX1 18 1 4 ∧ fty 1 4 = 2 ∧ 4 < nfs 1 := ⟨⟨RX1, TX1, 5, rfl, by decide, wf_1, rfl, (Or.inl q_310)⟩, by decide, by decide⟩
theorem f_RX1_21 : FG RX1 21 1 1 ∧ fty 1 1 = 0 ∧ 1 < nfs 1 := ⟨⟨RX1, TX1, 5, rfl, by decide, wf_1, rfl, (Or.inl q_307)⟩, by decide, by decide⟩
theorem f_RX1_25 : FG RX1 25 2 0 ∧ fty 2 0 = 0 ∧ 0 < nfs 2 := ⟨⟨RX2, TX2, 5, rfl, by decide, wf_2, rfl, (Or.inr ⟨_, q_32⟩)⟩, by decide, by decide⟩
theorem f_RX1_30 : FG RX1 30 2 1 ∧ fty 2 1 = 2 ∧ 1 < nfs 2 := ⟨⟨RX2, TX2, 5, rfl, by decide, wf_2, rfl, (Or.inr ⟨_, q_38⟩)⟩, by decide, by decide⟩
theorem f_RX1_33 : FG RX1 33 2 2 ∧ fty 2 2 = 2 ∧ 2 < nfs 2 := ⟨⟨RX2, TX2, 5, rfl, by decide, wf_2, rfl, (Or.inr ⟨_, q_42⟩)⟩, by decide, by decide⟩
theorem f_RX1_40 : FG RX1 40 2 3 ∧ fty 2 3 = 2 ∧ 3 < nfs 2 := ⟨⟨RX2, TX2, 5, rfl, by decide, wf_2, rfl, (Or.inr ⟨_, q_48⟩)⟩, by decide, by decide⟩
theorem f_RX1_43 : FG RX1 43 2 4 ∧ fty 2 4 = 2 ∧ 4 < nfs 2 := ⟨⟨RX2, TX2, 5, rfl, by decide, wf_2, rfl, (Or.inr ⟨_, q_53⟩)⟩, by decide, by decide⟩
theorem f_RX1_46 : FG RX1 46 1 0 ∧ fty 1 0 = 0 ∧ 0 < nfs 1 := ⟨⟨RX1, TX1, 5, rfl, by decide, wf_1, rfl, (Or.inl q_305)⟩, by decide, by decide⟩
theorem f_RX1_9 : FG RX1 9 1 2 ∧ fty 1 2 = 2 ∧ 2 < nfs 1 := ⟨⟨RX1, TX1, 5, rfl, by decide, wf_1, rfl, (Or.inl q_308)⟩, by decide, by decide⟩
theorem f_RX2_15 : FG RX2 15 2 2 ∧ fty 2 2 = 2 ∧ 2 < nfs 2 := ⟨⟨RX2, TX2, 5, rfl, by decide, wf_2, rfl, (Or.inl q_41)⟩, by decide, by decide⟩
theorem f_RX2_18 : FG RX2 18 2 3 ∧ fty 2 3 = 2 ∧ 3 < nfs 2 := ⟨⟨RX2, TX2, 5, rfl, by decide, wf_2, rfl, (Or.inl q_47)⟩, by decide, by decide⟩
theorem f_RX2_21 : FG RX2 21 2 4 ∧ fty 2 4 = 2 ∧ 4 < nfs 2 := ⟨⟨RX2, TX2, 5, rfl, by decide, wf_2, rfl, (Or.inl q_52)⟩, by decide, by decide⟩
theorem f_RX2_24 : FG RX2 24 2 0 ∧ fty 2 0 = 0 ∧ 0 < nfs 2 := ⟨⟨RX2, TX2, 5, rfl, by decide, wf_2, rfl, (Or.inl q_30)⟩, by decide, by decide⟩
theorem f_RX2_9 : FG RX2 9 2 1 ∧ fty 2 1 = 2 ∧ 1 < nfs 2 := ⟨⟨RX2, TX2, 5, rfl, by decide, wf_2, rfl, (Or.inl q_36)⟩, by decide, by decide⟩
theorem f_RX3_24 : FG RX3 24 2 1 ∧ fty 2 1 = 2 ∧ 1 < nfs 2 := ⟨⟨RX2, TX2, 5, rfl, by decide, wf_2, rfl, (Or.inr ⟨_, q_39⟩)⟩, by decide, by decide⟩
theorem f_RX3_28 : FG RX3 28 2 2 ∧ fty 2 2 = 2 ∧ 2 < nfs 2 := ⟨⟨RX2, TX2, 5, rfl, by decide, wf_2, rfl, (Or.inr ⟨_, q_45⟩)⟩, by decide, by decide⟩
theorem f_RX3_43 : FG RX3 43 2 3 ∧ fty 2 3 = 2 ∧ 3 < nfs 2 := ⟨⟨RX2, TX2, 5, rfl, by decide, wf_2, rfl, (Or.inr ⟨_, q_50⟩)⟩, by decide, by decide⟩
theorem f_RX3_46 : FG RX3 46 2 4 ∧ fty 2 4 = 2 ∧ 4 < nfs 2 := ⟨⟨RX2, TX2, 5, rfl, by decide, wf_2, rfl, (Or.inr ⟨_, q_56⟩)⟩, by decide, by decide⟩
theorem f_RX3_9 : FG RX3 9 3 0 ∧ fty 3 0 = 0 ∧ 0 < nfs 3 := ⟨⟨RX3, TX3, 5, rfl, by decide, wf_3, rfl, (Or.inl q_82)⟩, by decide, by decide⟩
theorem f_RX4_130 : FG RX4 130 4 2 ∧ fty 4 2 = 0 ∧ 2 < nfs 4 := ⟨⟨RX4, TX4, 11, rfl, by decide, wf_4, rfl, (Or.inl q_114)⟩, by decide, by decide⟩
theorem f_RX4_15 : FG RX4 15 4 4 ∧ fty 4 4 = 2 ∧ 4 < nfs 4 := ⟨⟨RX4, TX4, 11, rfl, by decide, wf_4, rfl, (Or.inl q_119)⟩, by decide, by decide⟩
theorem f_RX4_18 : FG RX4 18 4 5 ∧ fty 4 5 = 2 ∧ 5 < nfs 4 := ⟨⟨RX4, TX4, 11, rfl, by decide, wf_4, rfl, (Or.inl q_122)⟩, by decide, by decide⟩
theorem f_RX4_21 : FG RX4 21 4 6 ∧ fty 4 6 = 2 ∧ 6 < nfs 4 := ⟨⟨RX4, TX4, 11, rfl, by decide, wf_4, rfl, (Or.inl q_124)⟩, by decide, by decide⟩
theorem f_RX4_24 : FG RX4 24 4 7 ∧ fty 4 7 = 2 ∧ 7 < nfs 4 := ⟨⟨RX4, TX4, 11, rfl, by decide, wf_4, rfl, (Or.inl q_126)⟩, by decide, by decide⟩
theorem f_RX4_28 : FG RX4 28 4 8 ∧ fty 4 8 = 2 ∧ 8 < nfs 4 := ⟨⟨RX4, TX4, 11, rfl, by decide, wf_4, rfl, (Or.inl q_128)⟩, by decide, by decide⟩
theorem f_RX4_31 : FG RX4 31 4 9 ∧ fty 4 9 = 2 ∧ 9 < nfs 4 := ⟨⟨RX4, TX4, 11, rfl, by decide, wf_4, rfl, (Or.inl q_130)⟩, by decide, by decide⟩
theorem f_RX4_37 : FG RX4 37 4 10 ∧ fty 4 10 = 2 ∧ 10 < nfs 4 := ⟨⟨RX4, TX4, 11, rfl, by decide, wf_4, rfl, (Or.inl q_132)⟩, by decide, by decide⟩
theorem f_RX4_41 : FG RX4 41 4 0 ∧ fty 4 0 = 0 ∧ 0 < nfs 4 := ⟨⟨RX4, TX4, 11, rfl, by decide, wf_4, rfl, (Or.inl q_109)⟩, by decide, by decide⟩
theorem f_RX4_45 : FG RX4 45 2 0 ∧ fty 2 0 = 0 ∧ 0 < nfs 2 := ⟨⟨RX2, TX2, 5, rfl, by decide, wf_2, rfl, (Or.inr ⟨_, q_31⟩)⟩, by decide, by decide⟩
theorem f_RX4_48 : FG RX4 48 2 1 ∧ fty 2 1 = 2 ∧ 1 < nfs 2 := ⟨⟨RX2, TX2, 5, rfl, by decide, wf_2, rfl, (Or.inr ⟨_, q_37⟩)⟩, by decide, by decide⟩
theorem f_RX4_51 : FG RX4 51 2 2 ∧ fty 2 2 = 2 ∧ 2 < nfs 2 := ⟨⟨RX2, TX2, 5, rfl, by decide, wf_2, rfl, (Or.inr ⟨_, q_43⟩)⟩, by decide, by decide⟩
theorem f_RX4_58 : FG RX4 58 2 3 ∧ fty 2 3 = 2 ∧ 3 < nfs 2 := ⟨⟨RX2, TX2, 5, rfl, by decide, wf_2, rfl, (Or.inr ⟨_, q_49⟩)⟩, by decide, by decide⟩
theorem f_RX4_61 : FG RX4 61 2 4 ∧ fty 2 4 = 2 ∧ 4 < nfs 2 := ⟨⟨RX2, TX2, 5, rfl, by decide, wf_2, rfl, (Or.inr ⟨_, q_54⟩)⟩, by decide, by decide⟩
theorem f_RX4_72 : FG RX4 72 4 1 ∧ fty 4 1 = 0 ∧ 1 < nfs 4 := ⟨⟨RX4, TX4, 11, rfl, by decide, wf_4, rfl, (Or.inl q_112)⟩, by decide, by decide⟩
theorem f_RX4_86 : FG RX4 86 3 0 ∧ fty 3 0 = 0 ∧ 0 < nfs 3 := ⟨⟨RX3, TX3, 5, rfl, by decide, wf_3, rfl, (Or.inr ⟨_, q_83⟩)⟩, by decide, by decide⟩
theorem f_RX4_89 : FG RX4 89 3 1 ∧ fty 3 1 = 1 ∧ 1 < nfs 3 := ⟨⟨RX3, TX3, 5, rfl, by decide, wf_3, rfl, (Or.inr ⟨_, q_85⟩)⟩, by decide, by decide⟩
theorem f_RX4_9 : FG RX4 9 4 3 ∧ fty 4 3 = 2 ∧ 3 < nfs 4 := ⟨⟨RX4, TX4, 11, rfl, by decide, wf_4, rfl, (Or.inl q_116)⟩, by decide, by decide⟩
theorem f_RX4_92 : FG RX4 92 3 2 ∧ fty 3 2 = 1 ∧ 2 < nfs 3 := ⟨⟨RX3, TX3, 5, rfl, by decide, wf_3, rfl, (Or.inr ⟨_, q_88⟩)⟩, by decide, by decide⟩
theorem f_RX4_94 : FG RX4 94 3 3 ∧ fty 3 3 = 1 ∧ 3 < nfs 3 := ⟨⟨RX3, TX3, 5, rfl, by decide, wf_3, rfl, (Or.inr ⟨_, q_91⟩)⟩, by decide, by decide⟩
theorem f_RX4_96 : FG RX4 96 3 4 ∧ fty 3 4 = 1 ∧ 4 < nfs 3 := ⟨⟨RX3, TX3, 5, rfl, by decide, wf_3, rfl, (Or.inr ⟨_, q_94⟩)⟩, by decide, by decide⟩
theorem f_RX5_15 : FG RX5 15 5 1 ∧ fty 5 1 = 2 ∧ 1 < nfs 5 := ⟨⟨RX5, TX5, 3, rfl, by decide, wf_5, rfl, (Or.inl q_330)⟩, by decide, by decide⟩
theorem f_RX5_18 : FG RX5 18 5 2 ∧ fty 5 2 = 2 ∧ 2 < nfs 5 := ⟨⟨RX5, TX5, 3, rfl, by decide, wf_5, rfl, (Or.inl q_332)⟩, by decide, by decide⟩
theorem f_RX5_21 : FG RX5 21 7 0 ∧ fty 7 0 = 0 ∧ 0 < nfs 7 := ⟨⟨RX7, TX7, 3, rfl, by decide, wf_7, rfl, (Or.inr ⟨_, q_166⟩)⟩, by decide, by decide⟩
theorem f_RX5_26 : FG RX5 26 7 1 ∧ fty 7 1 = 2 ∧ 1 < nfs 7 := ⟨⟨RX7, TX7, 3, rfl, by decide, wf_7, rfl, (Or.inr ⟨_, q_170⟩)⟩, by decide, by decide⟩
theorem f_RX5_9 : FG RX5 9 5 0 ∧ fty 5 0 = 2 ∧ 0 < nfs 5 := ⟨⟨RX5, TX5, 3, rfl, by decide, wf_5, rfl, (Or.inl q_328)⟩, by decide, by decide⟩
theorem f_RX6_15 : FG RX6 15 6 3 ∧ fty 6 3 = 2 ∧ 3 < nfs 6 := ⟨⟨RX6, TX6, 8, rfl, by decide, wf_6, rfl, (Or.inl q_195)⟩, by decide, by decide⟩
theorem f_RX6_18 : FG RX6 18 6 4 ∧ fty 6 4 = 2 ∧ 4 < nfs 6 := ⟨⟨RX6, TX6, 8, rfl, by decide, wf_6, rfl, (Or.inl q_198)⟩, by decide, by decide⟩
theorem f_RX6_22 : FG RX6 22 6 5 ∧ fty 6 5 = 2 ∧ 5 < nfs 6 := ⟨⟨RX6, TX6, 8, rfl, by decide, wf_6, rfl, (Or.inl q_201)⟩, by decide, by decide⟩
theorem f_RX6_25 : FG RX6 25 6 6 ∧ fty 6 6 = 2 ∧ 6 < nfs 6 := ⟨⟨RX6, TX6, 8, rfl, by decide, wf_6, rfl, (Or.inl q_203)⟩, by decide, by decide⟩
theorem f_RX6_28 : FG RX6 28 6 7 ∧ fty 6 7 = 2 ∧ 7 < nfs 6 := ⟨⟨RX6, TX6, 8, rfl, by decide, wf_6, rfl, (Or.inl q_206)⟩, by decide, by decide⟩
theorem f_RX6_35 : FG RX6 35 6 1 ∧ fty 6 1 = 0 ∧ 1 < nfs 6 := ⟨⟨RX6, TX6, 8, rfl, by decide, wf_6, rfl, (Or.inl q_190)⟩, by decide, by decide⟩
theorem f_RX6_39 : FG RX6 39 6 0 ∧ fty 6 0 = 0 ∧ 0 < nfs 6 := ⟨⟨RX6, TX6, 8, rfl, by decide, wf_6, rfl, (Or.inl q_187)⟩, by decide, by decide⟩
theorem f_RX6_56 : FG RX6 56 4 0 ∧ fty 4 0 = 0 ∧ 0 < nfs 4 := ⟨⟨RX4, TX4, 11, rfl, by decide, wf_4, rfl, (Or.inr ⟨_, q_110⟩)⟩, by decide, by decide⟩
theorem f_RX6_61 : FG RX6 61 4 3 ∧ fty 4 3 = 2 ∧ 3 < nfs 4 := ⟨⟨RX4, TX4, 11, rfl, by decide, wf_4, rfl, (Or.inr ⟨_, q_117⟩)⟩, by decide, by decide⟩
theorem f_RX6_62 : FG RX6 62 4 4 ∧ fty 4 4 = 2 ∧ 4 < nfs 4 := ⟨⟨RX4, TX4, 11, rfl, by decide, wf_4, rfl, (Or.inr ⟨_, q_120⟩)⟩, by decide, by decide⟩
theorem f_RX6_67 : FG RX6 67 7 0 ∧ fty 7 0 = 0 ∧ 0 < nfs 7 := ⟨⟨RX7, TX7, 3, rfl, by decide, wf_7, rfl, (Or.inr ⟨_, q_165⟩)⟩, by decide, by decide⟩
theorem f_RX6_68 : FG RX6 68 7 1 ∧ fty 7 1 = 2 ∧ 1 < nfs 7 := ⟨⟨RX7, TX7, 3, rfl, by decide, wf_7, rfl, (Or.inr ⟨_, q_169⟩)⟩, by decide, by decide⟩
theorem f_RX6_9 : FG RX6 9 6 2 ∧ fty 6 2 = 2 ∧ 2 < nfs 6 := ⟨⟨RX6, TX6, 8, rfl, by decide, wf_6, rfl, (Or.inl q_192)⟩, by decide, by decide⟩
theorem f_RX7_15 : FG RX7 15 7 2 ∧ fty 7 2 = 2 ∧ 2 < nfs 7 := ⟨⟨RX7, TX7, 3, rfl, by decide, wf_7, rfl, (Or.inl q_172)⟩, by decide, by decide⟩
theorem f_RX7_19 : FG RX7 19 7 0 ∧ fty 7 0 = 0 ∧ 0 < nfs 7 := ⟨⟨RX7, TX7, 3, rfl, by decide, wf_7, rfl, (Or.inl q_164)⟩, by decide, by decide⟩
theorem f_RX7_23 : FG RX7 23 2 0 ∧ fty 2 0 = 0 ∧ 0 < nfs 2 := ⟨⟨RX2, TX2, 5, rfl, by decide, wf_2, rfl, (Or.inr ⟨_, q_33⟩)⟩, by decide, by decide⟩
theorem f_RX7_9 : FG RX7 9 7 1 ∧ fty 7 1 = 2 ∧ 1 < nfs 7 := ⟨⟨RX7, TX7, 3, rfl, by decide, wf_7, rfl, (Or.inl q_168)⟩, by decide, by decide⟩
theorem f_RX8_108 : FG RX8 108 6 7 ∧ fty 6 7 = 2 ∧ 7 < nfs 6 := ⟨⟨RX6, TX6, 8, rfl, by decide, wf_6, rfl, (Or.inr ⟨_, q_207⟩)⟩, by decide, by decide⟩
theorem f_RX8_15 : FG RX8 15 8 2 ∧ fty 8 2 = 2 ∧ 2 < nfs 8 := ⟨⟨RX8, TX8, 9, rfl, by decide, wf_8, rfl, (Or.inl q_237)⟩, by decide, by decide⟩
theorem f_RX8_18 : FG RX8 18 8 3 ∧ fty 8 3 = 2 ∧ 3 < nfs 8 := ⟨⟨RX8, TX8, 9, rfl, by decide, wf_8, rfl, (Or.inl q_239)⟩, by decide, by decide⟩
theorem f_RX8_21 : FG RX8 21 8 5 ∧ fty 8 5 = 2 ∧ 5 < nfs 8 := ⟨⟨RX8, TX8, 9, rfl, by decide, wf_8, rfl, (Or.inl q_242)⟩, by decide, by decide⟩
theorem f_RX8_25 : FG RX8 25 8 6 ∧ fty 8 6 = 2 ∧ 6 < nfs 8 := ⟨⟨RX8, TX8, 9, rfl, by decide, wf_8, rfl, (Or.inl q_243)⟩, by decide, by decide⟩
theorem f_RX8_28 : FG RX8 28 8 7 ∧ fty 8 7 = 2 ∧ 7 < nfs 8 := ⟨⟨RX8, TX8, 9, rfl, by decide, wf_8, rfl, (Or.inl q_244)⟩, by decide, by decide⟩
theorem f_RX8_31 : FG RX8 31 8 8 ∧ fty 8 8 = 2 ∧ 8 < nfs 8 := ⟨⟨RX8, TX8, 9, rfl, by decide, wf_8, rfl, (Or.inl q_245)⟩, by decide, by decide⟩
theorem f_RX8_34 : FG RX8 34 8 0 ∧ fty 8 0 = 0 ∧ 0 < nfs 8 := ⟨⟨RX8, TX8, 9, rfl, by decide, wf_8, rfl, (Or.inl q_233)⟩, by decide, by decide⟩
theorem f_RX8_38 : FG RX8 38 6 0 ∧ fty 6 0 = 0 ∧ 0 < nfs 6 := ⟨⟨RX6, TX6, 8, rfl, by decide, wf_6, rfl, (Or.inr ⟨_, q_186⟩)⟩, by decide, by decide⟩
theorem f_RX8_43 : FG RX8 43 6 2 ∧ fty 6 2 = 2 ∧ 2 < nfs 6 := ⟨⟨RX6, TX6, 8, rfl, by decide, wf_6, rfl, (Or.inr ⟨_, q_193⟩)⟩, by decide, by decide⟩
theorem f_RX8_46 : FG RX8 46 6 3 ∧ fty 6 3 = 2 ∧ 3 < nfs 6 := ⟨⟨RX6, TX6, 8, rfl, by decide, wf_6, rfl, (Or.inr ⟨_, q_196⟩)⟩, by decide, by decide⟩
theorem f_RX8_53 : FG RX8 53 6 4 ∧ fty 6 4 = 2 ∧ 4 < nfs 6 := ⟨⟨RX6, TX6, 8, rfl, by decide, wf_6, rfl, (Or.inr ⟨_, q_199⟩)⟩, by decide, by decide⟩
theorem f_RX8_56 : FG RX8 56 8 4 ∧ fty 8 4 = 0 ∧ 4 < nfs 8 := ⟨⟨RX8, TX8, 9, rfl, by decide, wf_8, rfl, (Or.inl q_241)⟩, by decide, by decide⟩
theorem f_RX8_71 : FG RX8 71 2 0 ∧ fty 2 0 = 0 ∧ 0 < nfs 2 := ⟨⟨RX2, TX2, 5, rfl, by decide, wf_2, rfl, (Or.inr ⟨_, q_34⟩)⟩, by decide, by decide⟩
theorem f_RX8_82 : FG RX8 82 2 2 ∧ fty 2 2 = 2 ∧ 2 < nfs 2 := ⟨⟨RX2, TX2, 5, rfl, by decide, wf_2, rfl, (Or.inr ⟨_, q_44⟩)⟩, by decide, by decide⟩
theorem f_RX8_89 : FG RX8 89 2 4 ∧ fty 2 4 = 2 ∧ 4 < nfs 2 := ⟨⟨RX2, TX2, 5, rfl, by decide, wf_2, rfl, (Or.inr ⟨_, q_55⟩)⟩, by decide, by decide⟩
theorem f_RX8_9 : FG RX8 9 8 1 ∧ fty 8 1 = 2 ∧ 1 < nfs 8 := ⟨⟨RX8, TX8, 9, rfl, by decide, wf_8, rfl, (Or.inl q_235)⟩, by decide, by decide⟩
theorem f_RX9_104 : FG RX9 104 2 0 ∧ fty 2 0 = 0 ∧ 0 < nfs 2 := ⟨⟨RX2, TX2, 5, rfl, by decide, wf_2, rfl, (Or.inr ⟨_, q_35⟩)⟩, by decide, by decide⟩
theorem f_RX9_108 : FG RX9 108 2 3 ∧ fty 2 3 = 2 ∧ 3 < nfs 2 := ⟨⟨RX2, TX2, 5, rfl, by decide, wf_2, rfl, (Or.inr ⟨_, q_51⟩)⟩, by decide, by decide⟩
theorem f_RX9_112 : FG RX9 112 2 1 ∧ fty 2 1 = 2 ∧ 1 < nfs 2 := ⟨⟨RX2, TX2, 5, rfl, by decide, wf_2, rfl, (Or.inr ⟨_, q_40⟩)⟩, by decide, by decide⟩
theorem f_RX9_115 : FG RX9 115 2 4 ∧ fty 2 4 = 2 ∧ 4 < nfs 2 := ⟨⟨RX2, TX2, 5, rfl, by decide, wf_2, rfl, (Or.inr ⟨_, q_57⟩)⟩, by decide, by decide⟩
theorem f_RX9_118 : FG RX9 118 2 2 ∧ fty 2 2 = 2 ∧ 2 < nfs 2 := ⟨⟨RX2, TX2, 5, rfl, by decide, wf_2, rfl, (Or.inr ⟨_, q_46⟩)⟩, by decide, by decide⟩
theorem f_RX9_12 : FG RX9 12 9 0 ∧ fty 9 0 = 2 ∧ 0 < nfs 9 := ⟨⟨RX9, TX9, 16, rfl, by decide, wf_9, rfl, (Or.inl q_341)⟩, by decide, by decide⟩
theorem f_RX9_150 : FG RX9 150 3 0 ∧ fty 3 0 = 0 ∧ 0 < nfs 3 := ⟨⟨RX3, TX3, 5, rfl, by decide, wf_3, rfl, (Or.inr ⟨_, q_84⟩)⟩, by decide, by decide⟩
theorem f_RX9_156 : FG RX9 156 3 1 ∧ fty 3 1 = 1 ∧ 1 < nfs 3 := ⟨⟨RX3, TX3, 5, rfl, by decide, wf_3, rfl, (Or.inr ⟨_, q_87⟩)⟩, by decide, by decide⟩
theorem f_RX9_16 : FG RX9 16 9 1 ∧ fty 9 1 = 2 ∧ 1 < nfs 9 := ⟨⟨RX9, TX9, 16, rfl, by decide, wf_9, rfl, (Or.inl q_342)⟩, by decide, by decide⟩
theorem f_RX9_160 : FG RX9 160 3 2 ∧ fty 3 2 = 1 ∧ 2 < nfs 3 := ⟨⟨RX3, TX3, 5, rfl, by decide, wf_3, rfl, (Or.inr ⟨_, q_90⟩)⟩, by decide, by decide⟩
theorem f_RX9_163 : FG RX9 163 3 3 ∧ fty 3 3 = 1 ∧ 3 < nfs 3 := ⟨⟨RX3, TX3, 5, rfl, by decide, wf_3, rfl, (Or.inr ⟨_, q_93⟩)⟩, by decide, by decide⟩
theorem f_RX9_166 : FG RX9 166 3 4 ∧ fty 3 4 = 1 ∧ 4 < nfs 3 := ⟨⟨RX3, TX3, 5, rfl, by decide, wf_3, rfl, (Or.inr ⟨_, q_96⟩)⟩, by decide, by decide⟩
theorem f_RX9_169 : FG RX9 169 4 0 ∧ fty 4 0 = 0 ∧ 0 < nfs 4 := ⟨⟨RX4, TX4, 11, rfl, by decide, wf_4, rfl, (Or.inr ⟨_, q_111⟩)⟩, by decide, by decide⟩
theorem f_RX9_170 : FG RX9 170 4 3 ∧ fty 4 3 = 2 ∧ 3 < nfs 4 := ⟨⟨RX4, TX4, 11, rfl, by decide, wf_4, rfl, (Or.inr ⟨_, q_118⟩)⟩, by decide, by decide⟩
theorem f_RX9_173 : FG RX9 173 4 4 ∧ fty 4 4 = 2 ∧ 4 < nfs 4 := ⟨⟨RX4, TX4, 11, rfl, by decide, wf_4, rfl, (Or.inr ⟨_, q_121⟩)⟩, by decide, by decide⟩
theorem f_RX9_175 : FG RX9 175 4 5 ∧ fty 4 5 = 2 ∧ 5 < nfs 4 := ⟨⟨RX4, TX4, 11, rfl, by decide, wf_4, rfl, (Or.inr ⟨_, q_123⟩)⟩, by decide, by decide⟩
theorem f_RX9_177 : FG RX9 177 4 6 ∧ fty 4 6 = 2 ∧ 6 < nfs 4 := ⟨⟨RX4, TX4, 11, rfl, by decide, wf_4, rfl, (Or.inr ⟨_, q_125⟩)⟩, by decide, by decide⟩
theorem f_RX9_179 : FG RX9 179 4 7 ∧ fty 4 7 = 2 ∧ 7 < nfs 4 := ⟨⟨RX4, TX4, 11, rfl, by decide, wf_4, rfl, (Or.inr ⟨_, q_127⟩)⟩, by decide, by decide⟩
theorem f_RX9_186 : FG RX9 186 4 8 ∧ fty 4 8 = 2 ∧ 8 < nfs 4 := ⟨⟨RX4, TX4, 11, rfl, by decide, wf_4, rfl, (Or.inr ⟨_, q_129⟩)⟩, by decide, by decide⟩
theorem f_RX9_19 : FG RX9 19 9 2 ∧ fty 9 2 = 2 ∧ 2 < nfs 9 := ⟨⟨RX9, TX9, 16, rfl, by decide, wf_9, rfl, (Or.inl q_343)⟩, by decide, by decide⟩
theorem f_RX9_193 : FG RX9 193 7 0 ∧ fty 7 0 = 0 ∧ 0 < nfs 7 := ⟨⟨RX7, TX7, 3, rfl, by decide, wf_7, rfl, (Or.inr ⟨_, q_167⟩)⟩, by decide, by decide⟩
theorem f_RX9_194 : FG RX9 194 7 1 ∧ fty 7 1 = 2 ∧ 1 < nfs 7 := ⟨⟨RX7, TX7, 3, rfl, by decide, wf_7, rfl, (Or.inr ⟨_, q_171⟩)⟩, by decide, by decide⟩
theorem f_RX9_200 : FG RX9 200 6 0 ∧ fty 6 0 = 0 ∧ 0 < nfs 6 := ⟨⟨RX6, TX6, 8, rfl, by decide, wf_6, rfl, (Or.inr ⟨_, q_188⟩)⟩, by decide, by decide⟩
theorem f_RX9_203 : FG RX9 203 6 4 ∧ fty 6 4 = 2 ∧ 4 < nfs 6 := ⟨⟨RX6, TX6, 8, rfl, by decide, wf_6, rfl, (Or.inr ⟨_, q_200⟩)⟩, by decide, by decide⟩
theorem f_RX9_206 : FG RX9 206 6 2 ∧ fty 6 2 = 2 ∧ 2 < nfs 6 := ⟨⟨RX6, TX6, 8, rfl, by decide, wf_6, rfl, (Or.inr ⟨_, q_194⟩)⟩, by decide, by decide⟩
theorem f_RX9_207 : FG RX9 207 6 3 ∧ fty 6 3 = 2 ∧ 3 < nfs 6 := ⟨⟨RX6, TX6, 8, rfl, by decide, wf_6, rfl, (Or.inr ⟨_, q_197⟩)⟩, by decide, by decide⟩
theorem f_RX9_208 : FG RX9 208 6 1 ∧ fty 6 1 = 0 ∧ 1 < nfs 6 := ⟨⟨RX6, TX6, 8, rfl, by decide, wf_6, rfl, (Or.inr ⟨_, q_191⟩)⟩, by decide, by decide⟩
theorem f_RX9_211 : FG RX9 211 6 5 ∧ fty 6 5 = 2 ∧ 5 < nfs 6 := ⟨⟨RX6, TX6, 8, rfl, by decide, wf_6, rfl, (Or.inr ⟨_, q_202⟩)⟩, by decide, by decide⟩
theorem f_RX9_214 : FG RX9 214 0 2 ∧ fty 0 2 = 2 ∧ 2 < nfs 0 := ⟨⟨RX0, TX0, 7, rfl, by decide, wf_0, rfl, (Or.inr ⟨_, q_275⟩)⟩, by decide, by decide⟩
theorem f_RX9_217 : FG RX9 217 6 6 ∧ fty 6 6 = 2 ∧ 6 < nfs 6 := ⟨⟨RX6, TX6, 8, rfl, by decide, wf_6, rfl, (Or.inr ⟨_, q_205⟩)⟩, by decide, by decide⟩
theorem f_RX9_223 : FG RX9 223 6 7 ∧ fty 6 7 = 2 ∧ 7 < nfs 6 := ⟨⟨RX6, TX6, 8, rfl, by decide, wf_6, rfl, (Or.inr ⟨_, q_209⟩)⟩, by decide, by decide⟩
theorem f_RX9_226 : FG RX9 226 0 0 ∧ fty 0 0 = 0 ∧ 0 < nfs 0 := ⟨⟨RX0, TX0, 7, rfl, by decide, wf_0, rfl, (Or.inr ⟨_, q_272⟩)⟩, by decide, by decide⟩
theorem f_RX9_227 : FG RX9 227 0 3 ∧ fty 0 3 = 2 ∧ 3 < nfs 0 := ⟨⟨RX0, TX0, 7, rfl, by decide, wf_0, rfl, (Or.inr ⟨_, q_277⟩)⟩, by decide, by decide⟩
theorem f_RX9_230 : FG RX9 230 0 4 ∧ fty 0 4 = 2 ∧ 4 < nfs 0 := ⟨⟨RX0, TX0, 7, rfl, by decide, wf_0, rfl, (Or.inr ⟨_, q_279⟩)⟩, by decide, by decide⟩
theorem f_RX9_232 : FG RX9 232 0 5 ∧ fty 0 5 = 2 ∧ 5 < nfs 0 := ⟨⟨RX0, TX0, 7, rfl, by decide, wf_0, rfl, (Or.inr ⟨_, q_281⟩)⟩, by decide, by decide⟩
theorem f_RX9_235 : FG RX9 235 0 6 ∧ fty 0 6 = 2 ∧ 6 < nfs 0 := ⟨⟨RX0, TX0, 7, rfl, by decide, wf_0, rfl, (Or.inr ⟨_, q_283⟩)⟩, by decide, by decide⟩
theorem f_RX9_25 : FG RX9 25 9 3 ∧ fty 9 3 = 2 ∧ 3 < nfs 9 := ⟨⟨RX9, TX9, 16, rfl, by decide, wf_9, rfl, (Or.inl q_344)⟩, by decide, by decide⟩
theorem f_RX9_259 : FG RX9 259 4 1 ∧ fty 4 1 = 0 ∧ 1 < nfs 4 := ⟨⟨RX4, TX4, 11, rfl, by decide, wf_4, rfl, (Or.inr ⟨_, q_113⟩)⟩, by decide, by decide⟩
theorem f_RX9_262 : FG RX9 262 4 2 ∧ fty 4 2 = 0 ∧ 2 < nfs 4 := ⟨⟨RX4, TX4, 11, rfl, by decide, wf_4, rfl, (Or.inr ⟨_, q_115⟩)⟩, by decide, by decide⟩
theorem f_RX9_265 : FG RX9 265 1 0 ∧ fty 1 0 = 0 ∧ 0 < nfs 1 := ⟨⟨RX1, TX1, 5, rfl, by decide, wf_1, rfl, (Or.inr ⟨_, q_306⟩)⟩, by decide, by decide⟩
theorem f_RX9_266 : FG RX9 266 4 9 ∧ fty 4 9 = 2 ∧ 9 < nfs 4 := ⟨⟨RX4, TX4, 11, rfl, by decide, wf_4, rfl, (Or.inr ⟨_, q_131⟩)⟩, by decide, by decide⟩
theorem f_RX9_288 : FG RX9 288 5 1 ∧ fty 5 1 = 2 ∧ 1 < nfs 5 := ⟨⟨RX5, TX5, 3, rfl, by decide, wf_5, rfl, (Or.inr ⟨_, q_331⟩)⟩, by decide, by decide⟩
theorem f_RX9_29 : FG RX9 29 9 4 ∧ fty 9 4 = 2 ∧ 4 < nfs 9 := ⟨⟨RX9, TX9, 16, rfl, by decide, wf_9, rfl, (Or.inl q_345)⟩, by decide, by decide⟩
theorem f_RX9_312 : FG RX9 312 9 12 ∧ fty 9 12 = 0 ∧ 12 < nfs 9 := ⟨⟨RX9, TX9, 16, rfl, by decide, wf_9, rfl, (Or.inl q_353)⟩, by decide, by decide⟩
theorem f_RX9_319 : FG RX9 319 5 0 ∧ fty 5 0 = 2 ∧ 0 < nfs 5 := ⟨⟨RX5, TX5, 3, rfl, by decide, wf_5, rfl, (Or.inr ⟨_, q_329⟩)⟩, by decide, by decide⟩
theorem f_RX9_325 : FG RX9 325 5 2 ∧ fty 5 2 = 2 ∧ 2 < nfs 5 := ⟨⟨RX5, TX5, 3, rfl, by decide, wf_5, rfl, (Or.inr ⟨_, q_333⟩)⟩, by decide, by decide⟩
theorem f_RX9_340 : FG RX9 340 9 13 ∧ fty 9 13 = 0 ∧ 13 < nfs 9 := ⟨⟨RX9, TX9, 16, rfl, by decide, wf_9, rfl, (Or.inl q_354)⟩, by decide, by decide⟩
theorem f_RX9_343 : FG RX9 343 9 14 ∧ fty 9 14 = 0 ∧ 14 < nfs 9 := ⟨⟨RX9, TX9, 16, rfl, by decide, wf_9, rfl, (Or.inl q_355)⟩, by decide, by decide⟩
theorem f_RX9_346 : FG RX9 346 9 15 ∧ fty 9 15 = 0 ∧ 15 < nfs 9 := ⟨⟨RX9, TX9, 16, rfl, by decide, wf_9, rfl, (Or.inl q_356)⟩, by decide, by decide⟩
theorem f_RX9_35 : FG RX9 35 9 5 ∧ fty 9 5 = 2 ∧ 5 < nfs 9 := ⟨⟨RX9, TX9, 16, rfl, by decide, wf_9, rfl, (Or.inl q_346)⟩, by decide, by decide⟩
theorem f_RX9_42 : FG RX9 42 9 6 ∧ fty 9 6 = 2 ∧ 6 < nfs 9 := ⟨⟨RX9, TX9, 16, rfl, by decide, wf_9, rfl, (Or.inl q_347)⟩, by decide, by decide⟩
theorem f_RX9_49 : FG RX9 49 9 7 ∧ fty 9 7 = 2 ∧ 7 < nfs 9 := ⟨⟨RX9, TX9, 16, rfl, by decide, wf_9, rfl, (Or.inl q_348)⟩, by decide, by decide⟩
theorem f_RX9_56 : FG RX9 56 9 8 ∧ fty 9 8 = 2 ∧ 8 < nfs 9 := ⟨⟨RX9, TX9, 16, rfl, by decide, wf_9, rfl, (Or.inl q_349)⟩, by decide, by decide⟩
theorem f_RX9_63 : FG RX9 63 9 9 ∧ fty 9 9 = 2 ∧ 9 < nfs 9 := ⟨⟨RX9, TX9, 16, rfl, by decide, wf_9, rfl, (Or.inl q_350)⟩, by decide, by decide⟩
theorem f_RX9_70 : FG RX9 70 9 10 ∧ fty 9 10 = 2 ∧ 10 < nfs 9 := ⟨⟨RX9, TX9, 16, rfl, by decide, wf_9, rfl, (Or.inl q_351)⟩, by decide, by decide⟩
theorem f_RX9_77 : FG RX9 77 9 11 ∧ fty 9 11 = 2 ∧ 11 < nfs 9 := ⟨⟨RX9, TX9, 16, rfl, by decide, wf_9, rfl, (Or.inl q_352)⟩, by decide, by decide⟩
theorem fp_RX0_79 : FP RX0 79 0 0 .int ∧ fty 0 0 = 0 ∧ 0 < nfs 0 := ⟨⟨RX0, TX0, 7, tyX0, rfl, by decide, wf_0, rfl, (Or.inl q_271), tyX0_ok, nmX0, rfl, by decide +kernel⟩, by decide, by decide⟩
theorem fp_RX10_109 : FP RX10 109 10 0 .int ∧ fty 10 0 = 0 ∧ 0 < nfs 10 := ⟨⟨RX10, TX10, 48, tyX10, rfl, by decide, wf_10, rfl, (Or.inl q_886), tyX10_ok, nmX10, rfl, by decide +kernel⟩, by decide, by decide⟩
theorem fp_RX10_140 : FP RX10 140 10 5 .int ∧ fty 10 5 = 0 ∧ 5 < nfs 10 := ⟨⟨RX10, TX10, 48, tyX10, rfl, by decide, wf_10, rfl, (Or.inl q_891), tyX10_ok, nmX10, rfl, by decide +kernel⟩, by decide, by decide⟩
theorem fp_RX10_143 : FP RX10 143 10 6 .long ∧ fty 10 6 = 1 ∧ 6 < nfs 10 := ⟨⟨RX10, TX10, 48, tyX10, rfl, by decide, wf_10, rfl, (Or.inl q_892), tyX10_ok, nmX10, rfl, by decide +kernel⟩, by decide, by decide⟩
theorem fp_RX10_147 : FP RX10 147 10 7 .long ∧ fty 10 7 = 1 ∧ 7 < nfs 10 := ⟨⟨RX10, TX10, 48, tyX10, rfl, by decide, wf_10, rfl, (Or.inl q_893), tyX10_ok, nmX10, rfl, by decide +kernel⟩, by decide, by decide⟩
theorem fp_RX10_150 : FP RX10 150 10 8 .long ∧ fty 10 8 = 1 ∧ 8 < nfs 10 := ⟨⟨RX10, TX10, 48, tyX10, rfl, by decide, wf_10, rfl, (Or.inl q_894), tyX10_ok, nmX10, rfl, by decide +kernel⟩, by decide, by decide⟩
theorem fp_RX10_176 : FP RX10 176 10 9 .int ∧ fty 10 9 = 0 ∧ 9 < nfs 10 := ⟨⟨RX10, TX10, 48, tyX10, rfl, by decide, wf_10, rfl, (Or.inl q_895), tyX10_ok, nmX10, rfl, by decide +kernel⟩, by decide, by decide⟩
theorem fp_RX10_221 : FP RX10 221 10 15 .int ∧ fty 10 15 = 0 ∧ 15 < nfs 10 := ⟨⟨RX10, TX10, 48, tyX10, rfl, by decide, wf_10, rfl, (Or.inl q_901), tyX10_ok, nmX10, rfl, by decide +kernel⟩, by decide, by decide⟩
theorem fp_RX10_247 : FP RX10 247 10 20 .int ∧ fty 10 20 = 0 ∧ 20 < nfs 10 := ⟨⟨RX10, TX10, 48, tyX10, rfl, by decide, wf_10, rfl, (Or.inl q_906), tyX10_ok, nmX10, rfl, by decide +kernel⟩, by decide, by decide⟩
theorem fp_RX10_267 : FP RX10 267 10 23 .int ∧ fty 10 23 = 0 ∧ 23 < nfs 10 := ⟨⟨RX10, TX10, 48, tyX10, rfl, by decide, wf_10, rfl, (Or.inl q_909), tyX10_ok, nmX10, rfl, by decide +kernel⟩, by decide, by decide⟩
theorem fp_RX10_278 : FP RX10 278 10 22 .int ∧ fty 10 22 = 0 ∧ 22 < nfs 10 := ⟨⟨RX10, TX10, 48, tyX10, rfl, by decide, wf_10, rfl, (Or.inl q_908), tyX10_ok, nmX10, rfl, by decide +kernel⟩, by decide, by decide⟩
theorem fp_RX10_290 : FP RX10 290 10 33 .long ∧ fty 10 33 = 1 ∧ 33 < nfs 10 := ⟨⟨RX10, TX10, 48, tyX10, rfl, by decide, wf_10, rfl, (Or.inl q_919), tyX10_ok, nmX10, rfl, by decide +kernel⟩, by decide, by decide⟩
theorem fp_RX10_293 : FP RX10 293 10 34 .long ∧ fty 10 34 = 1 ∧ 34 < nfs 10 := ⟨⟨RX10, TX10, 48, tyX10, rfl, by decide, wf_10, rfl, (Or.inl q_920), tyX10_ok, nmX10, rfl, by decide +kernel⟩, by decide, by decide⟩
theorem fp_RX10_296 : FP RX10 296 10 35 .long ∧ fty 10 35 = 1 ∧ 35 < nfs 10 := ⟨⟨RX10, TX10, 48, tyX10, rfl, by decide, wf_10, rfl, (Or.inl q_921), tyX10_ok, nmX10, rfl, by decide +kernel⟩, by decide, by decide⟩
theorem fp_RX10_299 : FP RX10 299 10 36 .long ∧ fty 10 36 = 1 ∧ 36 < nfs 10 := ⟨⟨RX10, TX10, 48, tyX10, rfl, by decide, wf_10, rfl, (Or.inl q_922), tyX10_ok, nmX10, rfl, by decide +kernel⟩, by decide, by decide⟩
theorem fp_RX10_324 : FP RX10 324 10 24 .int ∧ fty 10 24 = 0 ∧ 24 < nfs 10 := ⟨⟨RX10, TX10, 48, tyX10, rfl, by decide, wf_10, rfl, (Or.inl q_910), tyX10_ok, nmX10, rfl, by decide +kernel⟩, by decide, by decide⟩
theorem fp_RX10_379 : FP RX10 379 10 42 .int ∧ fty 10 42 = 0 ∧ 42 < nfs 10 := ⟨⟨RX10, TX10, 48, tyX10, rfl, by decide, wf_10, rfl, (Or.inl q_928), tyX10_ok, nmX10, rfl, by decide +kernel⟩, by decide, by decide⟩
theorem fp_RX10_398 : FP RX10 398 10 43 .boolean ∧ fty 10 43 = 0 ∧ 43 < nfs 10 := ⟨⟨RX10, TX10, 48, tyX10, rfl, by decide, wf_10, rfl, (Or.inl q_929), tyX10_ok, nmX10, rfl, by decide +kernel⟩, by decide, by decide⟩
theorem fp_RX1_21 : FP RX1 21 1 1 .int ∧ fty 1 1 = 0 ∧ 1 < nfs 1 := ⟨⟨RX1, TX1, 5, tyX1, rfl, by decide, wf_1, rfl, (Or.inl q_307), tyX1_ok, nmX1, rfl, by decide +kernel⟩, by decide, by decide⟩
theorem fp_RX1_46 : FP RX1 46 1 0 .int ∧ fty 1 0 = 0 ∧ 0 < nfs 1 := ⟨⟨RX1, TX1, 5, tyX1, rfl, by decide, wf_1, rfl, (Or.inl q_305), tyX1_ok, nmX1, rfl, by decide +kernel⟩, by decide, by decide⟩
theorem fp_RX2_24 : FP RX2 24 2 0 .int ∧ fty 2 0 = 0 ∧ 0 < nfs 2 := ⟨⟨RX2, TX2, 5, tyX2, rfl, by decide, wf_2, rfl, (Or.inl q_30), tyX2_ok, nmX2, rfl, by decide +kernel⟩, by decide, by decide⟩
theorem fp_RX3_49 : FP RX3 49 3 1 .long ∧ fty 3 1 = 1 ∧ 1 < nfs 3 := ⟨⟨RX3, TX3, 5, tyX3, rfl, by decide, wf_3, rfl, (Or.inl q_86), tyX3_ok, nmX3, rfl, by decide +kernel⟩, by decide, by decide⟩
theorem fp_RX3_53 : FP RX3 53 3 2 .long ∧ fty 3 2 = 1 ∧ 2 < nfs 3 := ⟨⟨RX3, TX3, 5, tyX3, rfl, by decide, wf_3, rfl, (Or.inl q_89), tyX3_ok, nmX3, rfl, by decide +kernel⟩, by decide, by decide⟩
theorem fp_RX3_56 : FP RX3 56 3 3 .long ∧ fty 3 3 = 1 ∧ 3 < nfs 3 := ⟨⟨RX3, TX3, 5, tyX3, rfl, by decide, wf_3, rfl, (Or.inl q_92), tyX3_ok, nmX3, rfl, by decide +kernel⟩, by decide, by decide⟩
theorem fp_RX3_59 : FP RX3 59 3 4 .long ∧ fty 3 4 = 1 ∧ 4 < nfs 3 := ⟨⟨RX3, TX3, 5, tyX3, rfl, by decide, wf_3, rfl, (Or.inl q_95), tyX3_ok, nmX3, rfl, by decide +kernel⟩, by decide, by decide⟩
theorem fp_RX3_9 : FP RX3 9 3 0 .int ∧ fty 3 0 = 0 ∧ 0 < nfs 3 := ⟨⟨RX3, TX3, 5, tyX3, rfl, by decide, wf_3, rfl, (Or.inl q_82), tyX3_ok, nmX3, rfl, by decide +kernel⟩, by decide, by decide⟩
theorem fp_RX4_130 : FP RX4 130 4 2 .int ∧ fty 4 2 = 0 ∧ 2 < nfs 4 := ⟨⟨RX4, TX4, 11, tyX4, rfl, by decide, wf_4, rfl, (Or.inl q_114), tyX4_ok, nmX4, rfl, by decide +kernel⟩, by decide, by decide⟩
theorem fp_RX4_41 : FP RX4 41 4 0 .int ∧ fty 4 0 = 0 ∧ 0 < nfs 4 := ⟨⟨RX4, TX4, 11, tyX4, rfl, by decide, wf_4, rfl, (Or.inl q_109), tyX4_ok, nmX4, rfl, by decide +kernel⟩, by decide, by decide⟩
theorem fp_RX4_72 : FP RX4 72 4 1 .int ∧ fty 4 1 = 0 ∧ 1 < nfs 4 := ⟨⟨RX4, TX4, 11, tyX4, rfl, by decide, wf_4, rfl, (Or.inl q_112), tyX4_ok, nmX4, rfl, by decide +kernel⟩, by decide, by decide⟩
theorem fp_RX6_35 : FP RX6 35 6 1 .int ∧ fty 6 1 = 0 ∧ 1 < nfs 6 := ⟨⟨RX6, TX6, 8, tyX6, rfl, by decide, wf_6, rfl, (Or.inl q_190), tyX6_ok, nmX6, rfl, by decide +kernel⟩, by decide, by decide⟩
theorem fp_RX6_39 : FP RX6 39 6 0 .int ∧ fty 6 0 = 0 ∧ 0 < nfs 6 := ⟨⟨RX6, TX6, 8, tyX6, rfl, by decide, wf_6, rfl, (Or.inl q_187), tyX6_ok, nmX6, rfl, by decide +kernel⟩, by decide, by decide⟩
theorem fp_RX7_19 : FP RX7 19 7 0 .int ∧ fty 7 0 = 0 ∧ 0 < nfs 7 := ⟨⟨RX7, TX7, 3, tyX7, rfl, by decide, wf_7, rfl, (Or.inl q_164), tyX7_ok, nmX7, rfl, by decide +kernel⟩, by decide, by decide⟩
theorem fp_RX8_34 : FP RX8 34 8 0 .int ∧ fty 8 0 = 0 ∧ 0 < nfs 8 := ⟨⟨RX8, TX8, 9, tyX8, rfl, by decide, wf_8, rfl, (Or.inl q_233), tyX8_ok, nmX8, rfl, by decide +kernel⟩, by decide, by decide⟩
theorem fp_RX8_56 : FP RX8 56 8 4 .int ∧ fty 8 4 = 0 ∧ 4 < nfs 8 := ⟨⟨RX8, TX8, 9, tyX8, rfl, by decide, wf_8, rfl, (Or.inl q_241), tyX8_ok, nmX8, rfl, by decide +kernel⟩, by decide, by decide⟩
theorem fp_RX9_312 : FP RX9 312 9 12 .boolean ∧ fty 9 12 = 0 ∧ 12 < nfs 9 := ⟨⟨RX9, TX9, 16, tyX9, rfl, by decide, wf_9, rfl, (Or.inl q_353), tyX9_ok, nmX9, rfl, by decide +kernel⟩, by decide, by decide⟩
theorem fp_RX9_340 : FP RX9 340 9 13 .boolean ∧ fty 9 13 = 0 ∧ 13 < nfs 9 := ⟨⟨RX9, TX9, 16, tyX9, rfl, by decide, wf_9, rfl, (Or.inl q_354), tyX9_ok, nmX9, rfl, by decide +kernel⟩, by decide, by decide⟩
theorem fp_RX9_343 : FP RX9 343 9 14 .boolean ∧ fty 9 14 = 0 ∧ 14 < nfs 9 := ⟨⟨RX9, TX9, 16, tyX9, rfl, by decide, wf_9, rfl, (Or.inl q_355), tyX9_ok, nmX9, rfl, by decide +kernel⟩, by decide, by decide⟩
theorem fp_RX9_346 : FP RX9 346 9 15 .boolean ∧ fty 9 15 = 0 ∧ 15 < nfs 9 := ⟨⟨RX9, TX9, 16, tyX9, rfl, by decide, wf_9, rfl, (Or.inl q_356), tyX9_ok, nmX9, rfl, by decide +kernel⟩, by decide, by decide⟩
theorem M_X10_isSheet : MS mX10_isSheet 1 := ⟨q_1352, q_11, ⟨by decide +kernel, by decide +kernel⟩, by decide +kernel, q_1351, by decide⟩
theorem M_X10_in : MS mX10_in 3 := ⟨q_1041, q_11, ⟨by decide +kernel, by decide +kernel⟩, by decide +kernel, q_1040, by decide⟩
theorem M_X10_line : MV mX10_line 4 := ⟨q_1035, q_11, ⟨by decide +kernel, by decide +kernel⟩, by decide +kernel, q_1033, q_1034, by decide⟩
theorem M_X10_isOnSheet : MS mX10_isOnSheet 1 := ⟨q_1038, q_11, ⟨by decide +kernel, by decide +kernel⟩, by decide +kernel, q_1037, by decide⟩
theorem M_X10_stands : MV mX10_stands 5 := ⟨q_1045, q_11, ⟨by decide +kernel, by decide +kernel⟩, by decide +kernel, q_1044, sl_40, by decide⟩
theorem M_X5_isOne : MV mX5_isOne 1 := ⟨q_806, q_10, ⟨by decide +kernel, by decide +kernel⟩, by decide +kernel, q_804, q_805, by decide⟩
theorem M_X5_isSort : MV mX5_isSort 1 := ⟨q_854, q_10, ⟨by decide +kernel, by decide +kernel⟩, by decide +kernel, q_852, q_853, by decide⟩
theorem M_X5_isMissing : MV mX5_isMissing 1 := ⟨q_810, q_10, ⟨by decide +kernel, by decide +kernel⟩, by decide +kernel, q_808, q_809, by decide⟩
theorem M_X5_hasRow : MV mX5_hasRow 3 := ⟨q_866, q_10, ⟨by decide +kernel, by decide +kernel⟩, by decide +kernel, q_864, q_865, by decide⟩
theorem M_X5_item : MV mX5_item 2 := ⟨q_818, q_10, ⟨by decide +kernel, by decide +kernel⟩, by decide +kernel, q_816, q_817, by decide⟩
theorem M_X9_line : MV mX9_line 4 := ⟨q_393, q_1, ⟨by decide +kernel, by decide +kernel⟩, by decide +kernel, q_391, q_392, by decide⟩
theorem M_X9_canBeEnds : MS mX9_canBeEnds 4 := ⟨q_396, q_1, ⟨by decide +kernel, by decide +kernel⟩, by decide +kernel, q_395, by decide⟩
theorem M_X2_isFull : MV mX2_isFull 0 := ⟨q_403, q_2, ⟨by decide +kernel, by decide +kernel⟩, by decide +kernel, q_401, q_402, by decide⟩
theorem M_X9_forgetWhatFollows : MV mX9_forgetWhatFollows 0 := ⟨q_407, q_1, ⟨by decide +kernel, by decide +kernel⟩, by decide +kernel, q_406, sl_0, by decide⟩
theorem M_X2_add : MV mX2_add 4 := ⟨q_411, q_2, ⟨by decide +kernel, by decide +kernel⟩, by decide +kernel, q_409, q_410, by decide⟩
theorem M_X2_lay : MV mX2_lay 5 := ⟨q_416, q_2, ⟨by decide +kernel, by decide +kernel⟩, by decide +kernel, q_414, q_415, by decide⟩
theorem M_X2_has : MV mX2_has 1 := ⟨q_420, q_2, ⟨by decide +kernel, by decide +kernel⟩, by decide +kernel, q_418, q_419, by decide⟩
theorem M_X9_isCoordinate : MS mX9_isCoordinate 1 := ⟨q_399, q_1, ⟨by decide +kernel, by decide +kernel⟩, by decide +kernel, q_398, by decide⟩
theorem M_X5_set : MV mX5_set 3 := ⟨q_838, q_10, ⟨by decide +kernel, by decide +kernel⟩, by decide +kernel, q_836, q_837, by decide⟩
theorem M_X5_make : MV mX5_make 3 := ⟨q_834, q_10, ⟨by decide +kernel, by decide +kernel⟩, by decide +kernel, q_832, q_833, by decide⟩
theorem M_X10_layBack : MV mX10_layBack 1 := ⟨q_1323, q_11, ⟨by decide +kernel, by decide +kernel⟩, by decide +kernel, q_1322, sl_87, by decide⟩
theorem M_X10_endRow : MV mX10_endRow 1 := ⟨q_1314, q_11, ⟨by decide +kernel, by decide +kernel⟩, by decide +kernel, q_1313, sl_85, by decide⟩
theorem M_X2_become : MV mX2_become 1 := ⟨q_770, q_2, ⟨by decide +kernel, by decide +kernel⟩, by decide +kernel, q_768, q_769, by decide⟩
theorem M_X10_keep : MV mX10_keep 1 := ⟨q_1310, q_11, ⟨by decide +kernel, by decide +kernel⟩, by decide +kernel, q_1309, sl_84, by decide⟩
theorem M_X10_tellOrder : MV mX10_tellOrder 3 := ⟨q_1170, q_11, ⟨by decide +kernel, by decide +kernel⟩, by decide +kernel, q_1169, sl_60, by decide⟩
theorem M_X10_isThere : MV mX10_isThere 3 := ⟨q_1174, q_11, ⟨by decide +kernel, by decide +kernel⟩, by decide +kernel, q_1173, sl_61, by decide⟩
theorem M_X10_isAhead : MV mX10_isAhead 4 := ⟨q_1178, q_11, ⟨by decide +kernel, by decide +kernel⟩, by decide +kernel, q_1177, sl_62, by decide⟩
theorem M_X10_yAbove : MV mX10_yAbove 3 := ⟨q_1182, q_11, ⟨by decide +kernel, by decide +kernel⟩, by decide +kernel, q_1181, sl_63, by decide⟩
theorem M_X10_yBelow : MV mX10_yBelow 2 := ⟨q_1186, q_11, ⟨by decide +kernel, by decide +kernel⟩, by decide +kernel, q_1185, sl_64, by decide⟩
theorem M_X10_against : MS mX10_against 4 := ⟨q_1108, q_11, ⟨by decide +kernel, by decide +kernel⟩, by decide +kernel, q_1107, by decide⟩
theorem M_X10_isUpright : MV mX10_isUpright 1 := ⟨q_1142, q_11, ⟨by decide +kernel, by decide +kernel⟩, by decide +kernel, q_1141, sl_55, by decide⟩
theorem M_X7_stand : MV mX7_stand 3 := ⟨q_599, q_5, ⟨by decide +kernel, by decide +kernel⟩, by decide +kernel, q_597, q_598, by decide⟩
theorem M_X2_isUpright : MV mX2_isUpright 1 := ⟨q_442, q_2, ⟨by decide +kernel, by decide +kernel⟩, by decide +kernel, q_440, q_441, by decide⟩
theorem M_X2_reaches : MV mX2_reaches 3 := ⟨q_503, q_2, ⟨by decide +kernel, by decide +kernel⟩, by decide +kernel, q_501, q_502, by decide⟩
theorem M_X2_height : MV mX2_height 3 := ⟨q_605, q_2, ⟨by decide +kernel, by decide +kernel⟩, by decide +kernel, q_603, q_604, by decide⟩
theorem M_X7_let : MV mX7_let 2 := ⟨q_609, q_5, ⟨by decide +kernel, by decide +kernel⟩, by decide +kernel, q_608, sl_18, by decide⟩
theorem M_X7_compareTwo : MV mX7_compareTwo 3 := ⟨q_613, q_5, ⟨by decide +kernel, by decide +kernel⟩, by decide +kernel, q_611, q_612, by decide⟩
theorem M_X2_run : MV mX2_run 1 := ⟨q_473, q_2, ⟨by decide +kernel, by decide +kernel⟩, by decide +kernel, q_471, q_472, by decide⟩
theorem M_X9_compareFractions : MS mX9_compareFractions 4 := ⟨q_461, q_1, ⟨by decide +kernel, by decide +kernel⟩, by decide +kernel, q_460, by decide⟩
theorem M_X2_rise : MV mX2_rise 1 := ⟨q_477, q_2, ⟨by decide +kernel, by decide +kernel⟩, by decide +kernel, q_475, q_476, by decide⟩
theorem M_X10_otherwise : MV mX10_otherwise 3 := ⟨q_1356, q_11, ⟨by decide +kernel, by decide +kernel⟩, by decide +kernel, q_1355, sl_90, by decide⟩
theorem M_X5_firstOtherwise : MV mX5_firstOtherwise 3 := ⟨q_814, q_10, ⟨by decide +kernel, by decide +kernel⟩, by decide +kernel, q_812, q_813, by decide⟩
theorem M_X9_toldXs : MV mX9_toldXs 2 := ⟨q_822, q_1, ⟨by decide +kernel, by decide +kernel⟩, by decide +kernel, q_821, sl_38, by decide⟩
theorem M_X9_toldWithout : MV mX9_toldWithout 2 := ⟨q_826, q_1, ⟨by decide +kernel, by decide +kernel⟩, by decide +kernel, q_825, sl_39, by decide⟩
theorem M_X10_lowest : MS mX10_lowest 3 := ⟨q_1083, q_11, ⟨by decide +kernel, by decide +kernel⟩, by decide +kernel, q_1082, by decide⟩
theorem M_X10_byLot : MV mX10_byLot 2 := ⟨q_1335, q_11, ⟨by decide +kernel, by decide +kernel⟩, by decide +kernel, q_1334, sl_88, by decide⟩
theorem M_X10_facesNow : MV mX10_facesNow 0 := ⟨q_1319, q_11, ⟨by decide +kernel, by decide +kernel⟩, by decide +kernel, q_1318, sl_86, by decide⟩
theorem M_X10_draw : MV mX10_draw 0 := ⟨q_1339, q_11, ⟨by decide +kernel, by decide +kernel⟩, by decide +kernel, q_1338, sl_89, by decide⟩
theorem M_X10_tellSheet : MV mX10_tellSheet 0 := ⟨q_1194, q_11, ⟨by decide +kernel, by decide +kernel⟩, by decide +kernel, q_1193, sl_65, by decide⟩
theorem M_X10_tellPoints : MV mX10_tellPoints 0 := ⟨q_1097, q_11, ⟨by decide +kernel, by decide +kernel⟩, by decide +kernel, q_1096, sl_46, by decide⟩
theorem M_X10_joinCells : MV mX10_joinCells 0 := ⟨q_1210, q_11, ⟨by decide +kernel, by decide +kernel⟩, by decide +kernel, q_1209, sl_69, by decide⟩
theorem M_X10_addCell : MV mX10_addCell 3 := ⟨q_1198, q_11, ⟨by decide +kernel, by decide +kernel⟩, by decide +kernel, q_1197, sl_66, by decide⟩
theorem M_X10_cut : MV mX10_cut 1 := ⟨q_1202, q_11, ⟨by decide +kernel, by decide +kernel⟩, by decide +kernel, q_1201, sl_67, by decide⟩
theorem M_X10_againstThrough : MV mX10_againstThrough 3 := ⟨q_1206, q_11, ⟨by decide +kernel, by decide +kernel⟩, by decide +kernel, q_1205, sl_68, by decide⟩
theorem M_X10_wide : MV mX10_wide 0 := ⟨q_1214, q_11, ⟨by decide +kernel, by decide +kernel⟩, by decide +kernel, q_1213, sl_70, by decide⟩
theorem M_X10_narrow : MV mX10_narrow 3 := ⟨q_1220, q_11, ⟨by decide +kernel, by decide +kernel⟩, by decide +kernel, q_1219, sl_71, by decide⟩
theorem M_X10_isMoreThanOne : MV mX10_isMoreThanOne 0 := ⟨q_1231, q_11, ⟨by decide +kernel, by decide +kernel⟩, by decide +kernel, q_1230, sl_72, by decide⟩
theorem M_X10_isOpen : MV mX10_isOpen 2 := ⟨q_1235, q_11, ⟨by decide +kernel, by decide +kernel⟩, by decide +kernel, q_1234, sl_73, by decide⟩
theorem M_X10_isUprightAt : MV mX10_isUprightAt 3 := ⟨q_1239, q_11, ⟨by decide +kernel, by decide +kernel⟩, by decide +kernel, q_1238, sl_74, by decide⟩
theorem M_X10_leastOf : MS mX10_leastOf 1 := ⟨q_1223, q_11, ⟨by decide +kernel, by decide +kernel⟩, by decide +kernel, q_1222, by decide⟩
theorem M_J6_numberOfTrailingZeros_0f7a4 : MS mJ6_numberOfTrailingZeros_0f7a4 1 := ⟨q_1226, q_13, ⟨by decide +kernel, by decide +kernel⟩, by decide +kernel, q_1225, by decide⟩
theorem M_X10_addPoint : MV mX10_addPoint 3 := ⟨q_1101, q_11, ⟨by decide +kernel, by decide +kernel⟩, by decide +kernel, q_1100, sl_47, by decide⟩
theorem M_X10_meet : MV mX10_meet 2 := ⟨q_1069, q_11, ⟨by decide +kernel, by decide +kernel⟩, by decide +kernel, q_1068, sl_43, by decide⟩
theorem M_X10_pointAgainst : MV mX10_pointAgainst 5 := ⟨q_1105, q_11, ⟨by decide +kernel, by decide +kernel⟩, by decide +kernel, q_1104, sl_48, by decide⟩
theorem M_X10_size : MS mX10_size 1 := ⟨q_1086, q_11, ⟨by decide +kernel, by decide +kernel⟩, by decide +kernel, q_1085, by decide⟩
theorem M_X10_common : MS mX10_common 2 := ⟨q_1089, q_11, ⟨by decide +kernel, by decide +kernel⟩, by decide +kernel, q_1088, by decide⟩
theorem M_X10_turn : MV mX10_turn 4 := ⟨q_1073, q_11, ⟨by decide +kernel, by decide +kernel⟩, by decide +kernel, q_1072, sl_44, by decide⟩
theorem M_X10_meetInRow : MV mX10_meetInRow 2 := ⟨q_1077, q_11, ⟨by decide +kernel, by decide +kernel⟩, by decide +kernel, q_1076, sl_45, by decide⟩
theorem M_X10_isLess : MS mX10_isLess 4 := ⟨q_1080, q_11, ⟨by decide +kernel, by decide +kernel⟩, by decide +kernel, q_1079, by decide⟩
theorem M_X9_commonDivisor : MS mX9_commonDivisor 2 := ⟨q_491, q_1, ⟨by decide +kernel, by decide +kernel⟩, by decide +kernel, q_490, by decide⟩
theorem M_X9_facesDrawn : MV mX9_facesDrawn 2 := ⟨q_786, q_1, ⟨by decide +kernel, by decide +kernel⟩, by decide +kernel, q_785, sl_37, by decide⟩
theorem M_X4_find : MV mX4_find 1 := ⟨q_450, q_3, ⟨by decide +kernel, by decide +kernel⟩, by decide +kernel, q_448, q_449, by decide⟩
theorem M_X4_facesAround : MV mX4_facesAround 0 := ⟨q_774, q_3, ⟨by decide +kernel, by decide +kernel⟩, by decide +kernel, q_772, q_773, by decide⟩
theorem M_X9_anew : MS mX9_anew 1 := ⟨q_789, q_1, ⟨by decide +kernel, by decide +kernel⟩, by decide +kernel, q_788, by decide⟩
theorem M_X9_coordinateBy : MS mX9_coordinateBy 1 := ⟨q_793, q_1, ⟨by decide +kernel, by decide +kernel⟩, by decide +kernel, q_792, by decide⟩
theorem M_X4_addMeetings : MV mX4_addMeetings 1 := ⟨q_465, q_3, ⟨by decide +kernel, by decide +kernel⟩, by decide +kernel, q_464, sl_4, by decide⟩
theorem M_X4_countParts : MV mX4_countParts 0 := ⟨q_532, q_3, ⟨by decide +kernel, by decide +kernel⟩, by decide +kernel, q_531, sl_11, by decide⟩
theorem M_X4_walkAlong : MV mX4_walkAlong 1 := ⟨q_515, q_3, ⟨by decide +kernel, by decide +kernel⟩, by decide +kernel, q_514, sl_8, by decide⟩
theorem M_X4_linesThrough : MV mX4_linesThrough 2 := ⟨q_495, q_3, ⟨by decide +kernel, by decide +kernel⟩, by decide +kernel, q_494, sl_7, by decide⟩
theorem M_X4_add : MV mX4_add 4 := ⟨q_454, q_3, ⟨by decide +kernel, by decide +kernel⟩, by decide +kernel, q_453, sl_2, by decide⟩
theorem M_X4_compareTo : MV mX4_compareTo 5 := ⟨q_458, q_3, ⟨by decide +kernel, by decide +kernel⟩, by decide +kernel, q_457, sl_3, by decide⟩
theorem M_X2_holds : MV mX2_holds 5 := ⟨q_499, q_2, ⟨by decide +kernel, by decide +kernel⟩, by decide +kernel, q_497, q_498, by decide⟩
theorem M_X9_leastOf : MS mX9_leastOf 1 := ⟨q_518, q_1, ⟨by decide +kernel, by decide +kernel⟩, by decide +kernel, q_517, by decide⟩
theorem M_X4_unite : MV mX4_unite 2 := ⟨q_522, q_3, ⟨by decide +kernel, by decide +kernel⟩, by decide +kernel, q_521, sl_9, by decide⟩
theorem M_X4_rootOf : MV mX4_rootOf 1 := ⟨q_526, q_3, ⟨by decide +kernel, by decide +kernel⟩, by decide +kernel, q_525, sl_10, by decide⟩
theorem M_X3_find : MV mX3_find 3 := ⟨q_469, q_4, ⟨by decide +kernel, by decide +kernel⟩, by decide +kernel, q_467, q_468, by decide⟩
theorem M_X3_layAt : MV mX3_layAt 3 := ⟨q_488, q_4, ⟨by decide +kernel, by decide +kernel⟩, by decide +kernel, q_487, sl_6, by decide⟩
theorem M_X3_findInOneRow : MV mX3_findInOneRow 3 := ⟨q_481, q_4, ⟨by decide +kernel, by decide +kernel⟩, by decide +kernel, q_480, sl_5, by decide⟩
theorem M_X3_isAhead : MS mX3_isAhead 4 := ⟨q_484, q_4, ⟨by decide +kernel, by decide +kernel⟩, by decide +kernel, q_483, by decide⟩
theorem M_X10_facesWithout : MV mX10_facesWithout 1 := ⟨q_1306, q_11, ⟨by decide +kernel, by decide +kernel⟩, by decide +kernel, q_1305, sl_83, by decide⟩
theorem M_X10_drops : MV mX10_drops 1 := ⟨q_1057, q_11, ⟨by decide +kernel, by decide +kernel⟩, by decide +kernel, q_1056, sl_42, by decide⟩
theorem M_X9_facesWithout : MV mX9_facesWithout 1 := ⟨q_766, q_1, ⟨by decide +kernel, by decide +kernel⟩, by decide +kernel, q_765, sl_36, by decide⟩
theorem M_X2_remove : MV mX2_remove 1 := ⟨q_429, q_2, ⟨by decide +kernel, by decide +kernel⟩, by decide +kernel, q_427, q_428, by decide⟩
theorem M_X10_isLine : MV mX10_isLine 1 := ⟨q_1053, q_11, ⟨by decide +kernel, by decide +kernel⟩, by decide +kernel, q_1052, sl_41, by decide⟩
theorem M_X10_tellPieces : MV mX10_tellPieces 0 := ⟨q_1130, q_11, ⟨by decide +kernel, by decide +kernel⟩, by decide +kernel, q_1129, sl_53, by decide⟩
theorem M_X10_partsMany : MV mX10_partsMany 0 := ⟨q_1294, q_11, ⟨by decide +kernel, by decide +kernel⟩, by decide +kernel, q_1293, sl_81, by decide⟩
theorem M_X10_tellHulls : MV mX10_tellHulls 0 := ⟨q_1150, q_11, ⟨by decide +kernel, by decide +kernel⟩, by decide +kernel, q_1149, sl_57, by decide⟩
theorem M_X10_twos : MV mX10_twos 1 := ⟨q_1298, q_11, ⟨by decide +kernel, by decide +kernel⟩, by decide +kernel, q_1297, sl_82, by decide⟩
theorem M_X10_isSide : MV mX10_isSide 2 := ⟨q_1158, q_11, ⟨by decide +kernel, by decide +kernel⟩, by decide +kernel, q_1157, sl_59, by decide⟩
theorem M_X10_placeAt : MV mX10_placeAt 2 := ⟨q_1154, q_11, ⟨by decide +kernel, by decide +kernel⟩, by decide +kernel, q_1153, sl_58, by decide⟩
theorem M_X10_isPiece : MV mX10_isPiece 2 := ⟨q_1134, q_11, ⟨by decide +kernel, by decide +kernel⟩, by decide +kernel, q_1133, sl_54, by decide⟩
theorem M_X10_linesAt : MV mX10_linesAt 1 := ⟨q_1112, q_11, ⟨by decide +kernel, by decide +kernel⟩, by decide +kernel, q_1111, sl_49, by decide⟩
theorem M_X10_linesOn : MV mX10_linesOn 4 := ⟨q_1116, q_11, ⟨by decide +kernel, by decide +kernel⟩, by decide +kernel, q_1115, sl_50, by decide⟩
theorem M_X10_isOn : MV mX10_isOn 5 := ⟨q_1120, q_11, ⟨by decide +kernel, by decide +kernel⟩, by decide +kernel, q_1119, sl_51, by decide⟩
theorem M_X9_knowPoints : MV mX9_knowPoints 0 := ⟨q_446, q_1, ⟨by decide +kernel, by decide +kernel⟩, by decide +kernel, q_445, sl_1, by decide⟩
theorem M_X9_knowHulls : MV mX9_knowHulls 0 := ⟨q_540, q_1, ⟨by decide +kernel, by decide +kernel⟩, by decide +kernel, q_539, sl_12, by decide⟩
theorem M_X9_knowFaces : MV mX9_knowFaces 0 := ⟨q_624, q_1, ⟨by decide +kernel, by decide +kernel⟩, by decide +kernel, q_623, sl_19, by decide⟩
theorem M_X6_cut : MV mX6_cut 3 := ⟨q_628, q_6, ⟨by decide +kernel, by decide +kernel⟩, by decide +kernel, q_626, q_627, by decide⟩
theorem M_X8_find : MV mX8_find 2 := ⟨q_648, q_7, ⟨by decide +kernel, by decide +kernel⟩, by decide +kernel, q_646, q_647, by decide⟩
theorem M_X0_join : MV mX0_join 2 := ⟨q_682, q_8, ⟨by decide +kernel, by decide +kernel⟩, by decide +kernel, q_680, q_681, by decide⟩
theorem M_X0_number : MV mX0_number 1 := ⟨q_696, q_8, ⟨by decide +kernel, by decide +kernel⟩, by decide +kernel, q_695, sl_31, by decide⟩
theorem M_X0_boundByCells : MV mX0_boundByCells 1 := ⟨q_700, q_8, ⟨by decide +kernel, by decide +kernel⟩, by decide +kernel, q_699, sl_32, by decide⟩
theorem M_X0_boundByUprights : MV mX0_boundByUprights 1 := ⟨q_708, q_8, ⟨by decide +kernel, by decide +kernel⟩, by decide +kernel, q_707, sl_34, by decide⟩
theorem M_X0_unite : MV mX0_unite 2 := ⟨q_686, q_8, ⟨by decide +kernel, by decide +kernel⟩, by decide +kernel, q_685, sl_29, by decide⟩
theorem M_X0_rootOf : MV mX0_rootOf 1 := ⟨q_690, q_8, ⟨by decide +kernel, by decide +kernel⟩, by decide +kernel, q_689, sl_30, by decide⟩
theorem M_X0_link : MV mX0_link 2 := ⟨q_704, q_8, ⟨by decide +kernel, by decide +kernel⟩, by decide +kernel, q_703, sl_33, by decide⟩
theorem M_X8_findSteps : MV mX8_findSteps 3 := ⟨q_652, q_7, ⟨by decide +kernel, by decide +kernel⟩, by decide +kernel, q_651, sl_23, by decide⟩
theorem M_X8_cellAt : MV mX8_cellAt 4 := ⟨q_669, q_7, ⟨by decide +kernel, by decide +kernel⟩, by decide +kernel, q_668, sl_26, by decide⟩
theorem M_X8_uprightsAt : MV mX8_uprightsAt 4 := ⟨q_674, q_7, ⟨by decide +kernel, by decide +kernel⟩, by decide +kernel, q_673, sl_27, by decide⟩
theorem M_X8_add : MV mX8_add 3 := ⟨q_678, q_7, ⟨by decide +kernel, by decide +kernel⟩, by decide +kernel, q_677, sl_28, by decide⟩
theorem M_X8_stepsUnder : MV mX8_stepsUnder 2 := ⟨q_662, q_7, ⟨by decide +kernel, by decide +kernel⟩, by decide +kernel, q_661, sl_25, by decide⟩
theorem M_X8_addStep : MV mX8_addStep 2 := ⟨q_658, q_7, ⟨by decide +kernel, by decide +kernel⟩, by decide +kernel, q_657, sl_24, by decide⟩
theorem M_X6_findXs : MV mX6_findXs 1 := ⟨q_632, q_6, ⟨by decide +kernel, by decide +kernel⟩, by decide +kernel, q_631, sl_20, by decide⟩
theorem M_X6_addCell : MV mX6_addCell 3 := ⟨q_637, q_6, ⟨by decide +kernel, by decide +kernel⟩, by decide +kernel, q_636, sl_21, by decide⟩
theorem M_X6_addCells : MV mX6_addCells 3 := ⟨q_642, q_6, ⟨by decide +kernel, by decide +kernel⟩, by decide +kernel, q_641, sl_22, by decide⟩
theorem M_X1_peel : MV mX1_peel 1 := ⟨q_544, q_9, ⟨by decide +kernel, by decide +kernel⟩, by decide +kernel, q_542, q_543, by decide⟩
theorem M_X1_peelOff : MV mX1_peelOff 1 := ⟨q_556, q_9, ⟨by decide +kernel, by decide +kernel⟩, by decide +kernel, q_555, sl_14, by decide⟩
theorem M_X1_add : MV mX1_add 2 := ⟨q_548, q_9, ⟨by decide +kernel, by decide +kernel⟩, by decide +kernel, q_547, sl_13, by decide⟩
theorem M_X1_hullOf : MV mX1_hullOf 2 := ⟨q_552, q_9, ⟨by decide +kernel, by decide +kernel⟩, by decide +kernel, q_550, q_551, by decide⟩
theorem M_X1_isOnBorder : MV mX1_isOnBorder 2 := ⟨q_560, q_9, ⟨by decide +kernel, by decide +kernel⟩, by decide +kernel, q_559, sl_15, by decide⟩
theorem M_X1_isLeft : MV mX1_isLeft 2 := ⟨q_564, q_9, ⟨by decide +kernel, by decide +kernel⟩, by decide +kernel, q_563, sl_16, by decide⟩
theorem M_X1_noneAtTheLeft : MV mX1_noneAtTheLeft 3 := ⟨q_568, q_9, ⟨by decide +kernel, by decide +kernel⟩, by decide +kernel, q_567, sl_17, by decide⟩
theorem M_X10_tellNext : MV mX10_tellNext 0 := ⟨q_1267, q_11, ⟨by decide +kernel, by decide +kernel⟩, by decide +kernel, q_1266, sl_79, by decide⟩
theorem M_X10_hasMore : MV mX10_hasMore 1 := ⟨q_1259, q_11, ⟨by decide +kernel, by decide +kernel⟩, by decide +kernel, q_1258, sl_77, by decide⟩
theorem M_X10_isNext : MV mX10_isNext 2 := ⟨q_1271, q_11, ⟨by decide +kernel, by decide +kernel⟩, by decide +kernel, q_1270, sl_80, by decide⟩
theorem M_X0_way : MV mX0_way 2 := ⟨q_754, q_8, ⟨by decide +kernel, by decide +kernel⟩, by decide +kernel, q_752, q_753, by decide⟩
theorem M_X10_isPlace : MS mX10_isPlace 3 := ⟨q_1278, q_11, ⟨by decide +kernel, by decide +kernel⟩, by decide +kernel, q_1277, by decide⟩
theorem M_X9_canBePlace : MS mX9_canBePlace 3 := ⟨q_730, q_1, ⟨by decide +kernel, by decide +kernel⟩, by decide +kernel, q_729, by decide⟩
theorem M_X9_linesOn : MV mX9_linesOn 3 := ⟨q_734, q_1, ⟨by decide +kernel, by decide +kernel⟩, by decide +kernel, q_733, sl_35, by decide⟩
theorem M_X6_cellAround : MV mX6_cellAround 4 := ⟨q_739, q_6, ⟨by decide +kernel, by decide +kernel⟩, by decide +kernel, q_737, q_738, by decide⟩
theorem M_X10_nextTo : MV mX10_nextTo 1 := ⟨q_1263, q_11, ⟨by decide +kernel, by decide +kernel⟩, by decide +kernel, q_1262, sl_78, by decide⟩
theorem M_X10_borders : MV mX10_borders 1 := ⟨q_1251, q_11, ⟨by decide +kernel, by decide +kernel⟩, by decide +kernel, q_1250, sl_75, by decide⟩
theorem M_X10_bordersAt : MV mX10_bordersAt 2 := ⟨q_1255, q_11, ⟨by decide +kernel, by decide +kernel⟩, by decide +kernel, q_1254, sl_76, by decide⟩
theorem M_J13_bitCount_95d88 : MS mJ13_bitCount_95d88 1 := ⟨q_720, q_14, ⟨by decide +kernel, by decide +kernel⟩, by decide +kernel, q_719, by decide⟩
theorem M_X10_endsAt : MV mX10_endsAt 1 := ⟨q_1126, q_11, ⟨by decide +kernel, by decide +kernel⟩, by decide +kernel, q_1125, sl_52, by decide⟩
theorem M_X4_endsAt : MV mX4_endsAt 2 := ⟨q_591, q_3, ⟨by decide +kernel, by decide +kernel⟩, by decide +kernel, q_589, q_590, by decide⟩
theorem M_X3_isAtOnePlace : MV mX3_isAtOnePlace 0 := ⟨q_583, q_4, ⟨by decide +kernel, by decide +kernel⟩, by decide +kernel, q_581, q_582, by decide⟩
theorem M_X10_pointsOn : MV mX10_pointsOn 1 := ⟨q_1146, q_11, ⟨by decide +kernel, by decide +kernel⟩, by decide +kernel, q_1145, sl_56, by decide⟩
theorem M_X4_countOn : MV mX4_countOn 1 := ⟨q_536, q_3, ⟨by decide +kernel, by decide +kernel⟩, by decide +kernel, q_534, q_535, by decide⟩
