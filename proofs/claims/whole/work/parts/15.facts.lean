abbrev mJ13_bitCount_95d88 : Mth := (yJ13_bitCount_95d88, cJ13_bitCount_95d88, 2, (some .int), none)
abbrev mJ6_numberOfTrailingZeros_0f7a4 : Mth := (yJ6_numberOfTrailingZeros_0f7a4, cJ6_numberOfTrailingZeros_0f7a4, 2, (some .int), none)
abbrev mX0_boundByCells : Mth := (yX0_boundByCells, cX0_boundByCells, 3, none, none)
abbrev mX0_boundByUprights : Mth := (yX0_boundByUprights, cX0_boundByUprights, 5, none, none)
abbrev mX0_join : Mth := (yX0_join, cX0_join, 4, none, none)
abbrev mX0_link : Mth := (yX0_link, cX0_link, 3, none, none)
abbrev mX0_number : Mth := (yX0_number, cX0_number, 4, none, none)
abbrev mX0_rootOf : Mth := (yX0_rootOf, cX0_rootOf, 4, (some .int), none)
abbrev mX0_unite : Mth := (yX0_unite, cX0_unite, 5, none, none)
abbrev mX0_way : Mth := (yX0_way, cX0_way, 9, (some .int), none)
abbrev mX10_addCell : Mth := (yX10_addCell, cX10_addCell, 4, none, none)
abbrev mX10_addPoint : Mth := (yX10_addPoint, cX10_addPoint, 17, none, none)
abbrev mX10_against : Mth := (yX10_against, cX10_against, 10, (some .int), none)
abbrev mX10_againstThrough : Mth := (yX10_againstThrough, cX10_againstThrough, 9, (some .int), none)
abbrev mX10_back : Mth := (yX10_back, cX10_back, 1, (some .int), none)
abbrev mX10_borders : Mth := (yX10_borders, cX10_borders, 4, (some .int), none)
abbrev mX10_bordersAt : Mth := (yX10_bordersAt, cX10_bordersAt, 5, (some .int), none)
abbrev mX10_byLot : Mth := (yX10_byLot, cX10_byLot, 8, (some .int), none)
abbrev mX10_cell : Mth := (yX10_cell, cX10_cell, 3, (some .int), none)
abbrev mX10_chance : Mth := (yX10_chance, cX10_chance, 7, (some .int), none)
abbrev mX10_common : Mth := (yX10_common, cX10_common, 4, (some .long), none)
abbrev mX10_copy : Mth := (yX10_copy, cX10_copy, 6, (some .int), none)
abbrev mX10_count : Mth := (yX10_count, cX10_count, 2, (some .int), none)
abbrev mX10_cross : Mth := (yX10_cross, cX10_cross, 4, (some .int), none)
abbrev mX10_cut : Mth := (yX10_cut, cX10_cut, 7, none, none)
abbrev mX10_draw : Mth := (yX10_draw, cX10_draw, 1, (some .int), none)
abbrev mX10_drawn : Mth := (yX10_drawn, cX10_drawn, 3, (some .int), none)
abbrev mX10_drop : Mth := (yX10_drop, cX10_drop, 2, (some .int), none)
abbrev mX10_drops : Mth := (yX10_drops, cX10_drops, 3, none, none)
abbrev mX10_endRow : Mth := (yX10_endRow, cX10_endRow, 2, (some (.array .int)), none)
abbrev mX10_endsAt : Mth := (yX10_endsAt, cX10_endsAt, 4, (some .int), none)
abbrev mX10_face : Mth := (yX10_face, cX10_face, 5, (some .int), none)
abbrev mX10_facesNow : Mth := (yX10_facesNow, cX10_facesNow, 1, (some .int), none)
abbrev mX10_facesWithout : Mth := (yX10_facesWithout, cX10_facesWithout, 3, (some .int), none)
abbrev mX10_film : Mth := (yX10_film, cX10_film, 4, (some .int), none)
abbrev mX10_hasMore : Mth := (yX10_hasMore, cX10_hasMore, 4, (some .boolean), none)
abbrev mX10_hops : Mth := (yX10_hops, cX10_hops, 6, (some .int), none)
abbrev mX10_image : Mth := (yX10_image, cX10_image, 1, (some .int), none)
abbrev mX10_in : Mth := (yX10_in, cX10_in, 3, (some .boolean), none)
abbrev mX10_isAhead : Mth := (yX10_isAhead, cX10_isAhead, 8, (some .boolean), none)
abbrev mX10_isLess : Mth := (yX10_isLess, cX10_isLess, 4, (some .boolean), none)
abbrev mX10_isLine : Mth := (yX10_isLine, cX10_isLine, 2, (some .boolean), none)
abbrev mX10_isMoreThanOne : Mth := (yX10_isMoreThanOne, cX10_isMoreThanOne, 1, (some .boolean), none)
abbrev mX10_isNext : Mth := (yX10_isNext, cX10_isNext, 3, none, none)
abbrev mX10_isOn : Mth := (yX10_isOn, cX10_isOn, 14, (some .boolean), none)
abbrev mX10_isOnSheet : Mth := (yX10_isOnSheet, cX10_isOnSheet, 1, (some .boolean), none)
abbrev mX10_isOpen : Mth := (yX10_isOpen, cX10_isOpen, 11, (some .boolean), none)
abbrev mX10_isPiece : Mth := (yX10_isPiece, cX10_isPiece, 5, (some .boolean), none)
abbrev mX10_isPlace : Mth := (yX10_isPlace, cX10_isPlace, 3, (some .boolean), none)
abbrev mX10_isSheet : Mth := (yX10_isSheet, cX10_isSheet, 1, (some .boolean), none)
abbrev mX10_isSide : Mth := (yX10_isSide, cX10_isSide, 7, (some .boolean), none)
abbrev mX10_isThere : Mth := (yX10_isThere, cX10_isThere, 6, (some .boolean), none)
abbrev mX10_isUpright : Mth := (yX10_isUpright, cX10_isUpright, 2, (some .boolean), none)
abbrev mX10_isUprightAt : Mth := (yX10_isUprightAt, cX10_isUprightAt, 6, (some .boolean), none)
abbrev mX10_joinCells : Mth := (yX10_joinCells, cX10_joinCells, 7, none, none)
abbrev mX10_keep : Mth := (yX10_keep, cX10_keep, 3, none, none)
abbrev mX10_layBack : Mth := (yX10_layBack, cX10_layBack, 3, none, none)
abbrev mX10_leastOf : Mth := (yX10_leastOf, cX10_leastOf, 1, (some .int), none)
abbrev mX10_line : Mth := (yX10_line, cX10_line, 5, (some .int), none)
abbrev mX10_linesAt : Mth := (yX10_linesAt, cX10_linesAt, 2, (some .int), none)
abbrev mX10_linesOn : Mth := (yX10_linesOn, cX10_linesOn, 11, (some .int), none)
abbrev mX10_load : Mth := (yX10_load, cX10_load, 8, (some .int), none)
abbrev mX10_lowest : Mth := (yX10_lowest, cX10_lowest, 7, (some .long), none)
abbrev mX10_meet : Mth := (yX10_meet, cX10_meet, 10, none, none)
abbrev mX10_meetInRow : Mth := (yX10_meetInRow, cX10_meetInRow, 9, none, none)
abbrev mX10_most : Mth := (yX10_most, cX10_most, 6, (some .int), none)
abbrev mX10_move : Mth := (yX10_move, cX10_move, 7, (some .int), none)
abbrev mX10_narrow : Mth := (yX10_narrow, cX10_narrow, 8, none, none)
abbrev mX10_nextTo : Mth := (yX10_nextTo, cX10_nextTo, 4, (some .int), none)
abbrev mX10_on : Mth := (yX10_on, cX10_on, 4, (some .int), none)
abbrev mX10_order : Mth := (yX10_order, cX10_order, 4, (some .int), none)
abbrev mX10_otherwise : Mth := (yX10_otherwise, cX10_otherwise, 5, (some .int), none)
abbrev mX10_partsMany : Mth := (yX10_partsMany, cX10_partsMany, 4, (some .int), none)
abbrev mX10_placeAt : Mth := (yX10_placeAt, cX10_placeAt, 4, (some .int), none)
abbrev mX10_point : Mth := (yX10_point, cX10_point, 4, (some .int), none)
abbrev mX10_pointAgainst : Mth := (yX10_pointAgainst, cX10_pointAgainst, 11, (some .int), none)
abbrev mX10_pointsOn : Mth := (yX10_pointsOn, cX10_pointsOn, 4, (some .int), none)
abbrev mX10_put : Mth := (yX10_put, cX10_put, 4, (some .int), none)
abbrev mX10_sheet : Mth := (yX10_sheet, cX10_sheet, 5, (some .int), none)
abbrev mX10_size : Mth := (yX10_size, cX10_size, 2, (some .long), none)
abbrev mX10_slab : Mth := (yX10_slab, cX10_slab, 3, (some .int), none)
abbrev mX10_stands : Mth := (yX10_stands, cX10_stands, 7, none, none)
abbrev mX10_taken : Mth := (yX10_taken, cX10_taken, 4, (some .int), none)
abbrev mX10_tellHulls : Mth := (yX10_tellHulls, cX10_tellHulls, 6, (some .int), none)
abbrev mX10_tellNext : Mth := (yX10_tellNext, cX10_tellNext, 5, none, none)
abbrev mX10_tellOrder : Mth := (yX10_tellOrder, cX10_tellOrder, 8, none, none)
abbrev mX10_tellPieces : Mth := (yX10_tellPieces, cX10_tellPieces, 7, (some .int), none)
abbrev mX10_tellPoints : Mth := (yX10_tellPoints, cX10_tellPoints, 3, none, none)
abbrev mX10_tellSheet : Mth := (yX10_tellSheet, cX10_tellSheet, 2, none, none)
abbrev mX10_tells : Mth := (yX10_tells, cX10_tells, 8, (some .int), none)
abbrev mX10_told : Mth := (yX10_told, cX10_told, 4, (some .int), none)
abbrev mX10_turn : Mth := (yX10_turn, cX10_turn, 5, (some .int), none)
abbrev mX10_twos : Mth := (yX10_twos, cX10_twos, 5, (some .int), none)
abbrev mX10_where : Mth := (yX10_where, cX10_where, 6, (some .int), none)
abbrev mX10_wide : Mth := (yX10_wide, cX10_wide, 1, none, none)
abbrev mX10_without : Mth := (yX10_without, cX10_without, 2, (some .int), none)
abbrev mX10_yAbove : Mth := (yX10_yAbove, cX10_yAbove, 8, (some .long), none)
abbrev mX10_yBelow : Mth := (yX10_yBelow, cX10_yBelow, 4, (some .long), none)
abbrev mX1_add : Mth := (yX1_add, cX1_add, 3, none, none)
abbrev mX1_hullOf : Mth := (yX1_hullOf, cX1_hullOf, 4, (some .int), none)
abbrev mX1_isLeft : Mth := (yX1_isLeft, cX1_isLeft, 3, (some .boolean), none)
abbrev mX1_isOnBorder : Mth := (yX1_isOnBorder, cX1_isOnBorder, 5, (some .boolean), none)
abbrev mX1_noneAtTheLeft : Mth := (yX1_noneAtTheLeft, cX1_noneAtTheLeft, 6, (some .boolean), none)
abbrev mX1_peel : Mth := (yX1_peel, cX1_peel, 4, none, none)
abbrev mX1_peelOff : Mth := (yX1_peelOff, cX1_peelOff, 4, (some .int), none)
abbrev mX2_add : Mth := (yX2_add, cX2_add, 5, (some .int), none)
abbrev mX2_become : Mth := (yX2_become, cX2_become, 3, none, none)
abbrev mX2_has : Mth := (yX2_has, cX2_has, 2, (some .boolean), none)
abbrev mX2_height : Mth := (yX2_height, cX2_height, 6, (some .long), none)
abbrev mX2_holds : Mth := (yX2_holds, cX2_holds, 10, (some .boolean), none)
abbrev mX2_isFull : Mth := (yX2_isFull, cX2_isFull, 1, (some .boolean), none)
abbrev mX2_isUpright : Mth := (yX2_isUpright, cX2_isUpright, 2, (some .boolean), none)
abbrev mX2_lay : Mth := (yX2_lay, cX2_lay, 7, none, none)
abbrev mX2_reaches : Mth := (yX2_reaches, cX2_reaches, 6, (some .boolean), none)
abbrev mX2_remove : Mth := (yX2_remove, cX2_remove, 3, none, none)
abbrev mX2_rise : Mth := (yX2_rise, cX2_rise, 2, (some .long), none)
abbrev mX2_run : Mth := (yX2_run, cX2_run, 2, (some .long), none)
abbrev mX3_find : Mth := (yX3_find, cX3_find, 26, none, none)
abbrev mX3_findInOneRow : Mth := (yX3_findInOneRow, cX3_findInOneRow, 8, none, none)
abbrev mX3_isAhead : Mth := (yX3_isAhead, cX3_isAhead, 4, (some .boolean), none)
abbrev mX3_isAtOnePlace : Mth := (yX3_isAtOnePlace, cX3_isAtOnePlace, 1, (some .boolean), none)
abbrev mX3_layAt : Mth := (yX3_layAt, cX3_layAt, 11, none, none)
abbrev mX4_add : Mth := (yX4_add, cX4_add, 12, none, none)
abbrev mX4_addMeetings : Mth := (yX4_addMeetings, cX4_addMeetings, 4, none, none)
abbrev mX4_compareTo : Mth := (yX4_compareTo, cX4_compareTo, 11, (some .int), none)
abbrev mX4_countOn : Mth := (yX4_countOn, cX4_countOn, 4, (some .int), none)
abbrev mX4_countParts : Mth := (yX4_countParts, cX4_countParts, 2, none, none)
abbrev mX4_endsAt : Mth := (yX4_endsAt, cX4_endsAt, 5, (some .int), none)
abbrev mX4_facesAround : Mth := (yX4_facesAround, cX4_facesAround, 1, (some .int), none)
abbrev mX4_find : Mth := (yX4_find, cX4_find, 3, none, none)
abbrev mX4_linesThrough : Mth := (yX4_linesThrough, cX4_linesThrough, 5, (some .int), none)
abbrev mX4_rootOf : Mth := (yX4_rootOf, cX4_rootOf, 4, (some .int), none)
abbrev mX4_unite : Mth := (yX4_unite, cX4_unite, 5, none, none)
abbrev mX4_walkAlong : Mth := (yX4_walkAlong, cX4_walkAlong, 4, none, none)
abbrev mX5_firstOtherwise : Mth := (yX5_firstOtherwise, cX5_firstOtherwise, 7, (some .int), none)
abbrev mX5_hasRow : Mth := (yX5_hasRow, cX5_hasRow, 4, (some .boolean), none)
abbrev mX5_isMissing : Mth := (yX5_isMissing, cX5_isMissing, 2, (some .boolean), none)
abbrev mX5_isOne : Mth := (yX5_isOne, cX5_isOne, 2, (some .boolean), none)
abbrev mX5_isSort : Mth := (yX5_isSort, cX5_isSort, 2, (some .boolean), none)
abbrev mX5_item : Mth := (yX5_item, cX5_item, 3, (some .int), none)
abbrev mX5_make : Mth := (yX5_make, cX5_make, 5, none, none)
abbrev mX5_set : Mth := (yX5_set, cX5_set, 4, none, none)
abbrev mX6_addCell : Mth := (yX6_addCell, cX6_addCell, 4, none, none)
abbrev mX6_addCells : Mth := (yX6_addCells, cX6_addCells, 9, none, none)
abbrev mX6_cellAround : Mth := (yX6_cellAround, cX6_cellAround, 9, (some .int), none)
abbrev mX6_cut : Mth := (yX6_cut, cX6_cut, 5, none, none)
abbrev mX6_findXs : Mth := (yX6_findXs, cX6_findXs, 4, none, none)
abbrev mX7_compareTwo : Mth := (yX7_compareTwo, cX7_compareTwo, 5, (some .int), none)
abbrev mX7_let : Mth := (yX7_let, cX7_let, 5, none, none)
abbrev mX7_stand : Mth := (yX7_stand, cX7_stand, 7, none, none)
abbrev mX8_add : Mth := (yX8_add, cX8_add, 4, none, none)
abbrev mX8_addStep : Mth := (yX8_addStep, cX8_addStep, 7, none, none)
abbrev mX8_cellAt : Mth := (yX8_cellAt, cX8_cellAt, 8, (some .int), none)
abbrev mX8_find : Mth := (yX8_find, cX8_find, 7, none, none)
abbrev mX8_findSteps : Mth := (yX8_findSteps, cX8_findSteps, 7, none, none)
abbrev mX8_stepsUnder : Mth := (yX8_stepsUnder, cX8_stepsUnder, 7, (some .int), none)
abbrev mX8_uprightsAt : Mth := (yX8_uprightsAt, cX8_uprightsAt, 9, (some .int), none)
abbrev mX9_anew : Mth := (yX9_anew, cX9_anew, 1, (some .int), none)
abbrev mX9_back : Mth := (yX9_back, cX9_back, 1, (some .int), none)
abbrev mX9_canBeEnds : Mth := (yX9_canBeEnds, cX9_canBeEnds, 4, (some .boolean), none)
abbrev mX9_canBePlace : Mth := (yX9_canBePlace, cX9_canBePlace, 3, (some .boolean), none)
abbrev mX9_cell : Mth := (yX9_cell, cX9_cell, 3, (some .int), none)
abbrev mX9_chance : Mth := (yX9_chance, cX9_chance, 7, (some .int), none)
abbrev mX9_commonDivisor : Mth := (yX9_commonDivisor, cX9_commonDivisor, 11, (some .long), none)
abbrev mX9_compareFractions : Mth := (yX9_compareFractions, cX9_compareFractions, 12, (some .int), none)
abbrev mX9_coordinateBy : Mth := (yX9_coordinateBy, cX9_coordinateBy, 1, (some .int), none)
abbrev mX9_copy : Mth := (yX9_copy, cX9_copy, 6, (some .int), none)
abbrev mX9_count : Mth := (yX9_count, cX9_count, 2, (some .int), none)
abbrev mX9_cross : Mth := (yX9_cross, cX9_cross, 4, (some .int), none)
abbrev mX9_drawn : Mth := (yX9_drawn, cX9_drawn, 3, (some .int), none)
abbrev mX9_drop : Mth := (yX9_drop, cX9_drop, 2, (some .int), none)
abbrev mX9_face : Mth := (yX9_face, cX9_face, 3, (some .int), none)
abbrev mX9_facesDrawn : Mth := (yX9_facesDrawn, cX9_facesDrawn, 9, (some .int), none)
abbrev mX9_facesWithout : Mth := (yX9_facesWithout, cX9_facesWithout, 2, (some .int), none)
abbrev mX9_film : Mth := (yX9_film, cX9_film, 4, (some .int), none)
abbrev mX9_forgetWhatFollows : Mth := (yX9_forgetWhatFollows, cX9_forgetWhatFollows, 1, none, none)
abbrev mX9_hops : Mth := (yX9_hops, cX9_hops, 3, (some .int), none)
abbrev mX9_image : Mth := (yX9_image, cX9_image, 1, (some .int), none)
abbrev mX9_isCoordinate : Mth := (yX9_isCoordinate, cX9_isCoordinate, 1, (some .boolean), none)
abbrev mX9_knowFaces : Mth := (yX9_knowFaces, cX9_knowFaces, 1, none, none)
abbrev mX9_knowHulls : Mth := (yX9_knowHulls, cX9_knowHulls, 1, none, none)
abbrev mX9_knowPoints : Mth := (yX9_knowPoints, cX9_knowPoints, 1, none, none)
abbrev mX9_leastOf : Mth := (yX9_leastOf, cX9_leastOf, 2, (some .int), none)
abbrev mX9_line : Mth := (yX9_line, cX9_line, 5, (some .int), none)
abbrev mX9_linesOn : Mth := (yX9_linesOn, cX9_linesOn, 6, (some .int), none)
abbrev mX9_load : Mth := (yX9_load, cX9_load, 9, (some .int), none)
abbrev mX9_most : Mth := (yX9_most, cX9_most, 6, (some .int), none)
abbrev mX9_move : Mth := (yX9_move, cX9_move, 7, (some .int), none)
abbrev mX9_on : Mth := (yX9_on, cX9_on, 4, (some .int), none)
abbrev mX9_order : Mth := (yX9_order, cX9_order, 4, (some .int), none)
abbrev mX9_point : Mth := (yX9_point, cX9_point, 3, (some .int), none)
abbrev mX9_put : Mth := (yX9_put, cX9_put, 4, (some .int), none)
abbrev mX9_sheet : Mth := (yX9_sheet, cX9_sheet, 4, (some .int), none)
abbrev mX9_slab : Mth := (yX9_slab, cX9_slab, 3, (some .int), none)
abbrev mX9_taken : Mth := (yX9_taken, cX9_taken, 5, (some .int), none)
abbrev mX9_tells : Mth := (yX9_tells, cX9_tells, 4, (some .int), none)
abbrev mX9_told : Mth := (yX9_told, cX9_told, 3, (some .int), none)
abbrev mX9_toldWithout : Mth := (yX9_toldWithout, cX9_toldWithout, 5, (some .int), none)
abbrev mX9_toldXs : Mth := (yX9_toldXs, cX9_toldXs, 5, (some .int), none)
abbrev mX9_where : Mth := (yX9_where, cX9_where, 4, (some .int), none)
abbrev mX9_without : Mth := (yX9_without, cX9_without, 2, (some .int), none)
theorem f_RX0_15 : FG RX0 15 0 2 ∧ fty 0 2 = 2 ∧ 2 < nfs 0 := ⟨⟨RX0, TX0, 7, rfl, by decide, wf_0, rfl, (Or.inl q_274)⟩, by decide, by decide⟩
theorem f_RX0_18 : FG RX0 18 0 3 ∧ fty 0 3 = 2 ∧ 3 < nfs 0 := ⟨⟨RX0, TX0, 7, rfl, by decide, wf_0, rfl, (Or.inl q_276)⟩, by decide, by decide⟩
theorem f_RX0_21 : FG RX0 21 0 4 ∧ fty 0 4 = 2 ∧ 4 < nfs 0 := ⟨⟨RX0, TX0, 7, rfl, by decide, wf_0, rfl, (Or.inl q_278)⟩, by decide, by decide⟩
theorem f_RX0_24 : FG RX0 24 0 5 ∧ fty 0 5 = 2 ∧ 5 < nfs 0 := ⟨⟨RX0, TX0, 7, rfl, by decide, wf_0, rfl, (Or.inl q_280)⟩, by decide, by decide⟩
theorem f_RX0_27 : FG RX0 27 0 6 ∧ fty 0 6 = 2 ∧ 6 < nfs 0 := ⟨⟨RX0, TX0, 7, rfl, by decide, wf_0, rfl, (Or.inl q_282)⟩, by decide, by decide⟩
theorem f_RX0_31 : FG RX0 31 6 1 ∧ fty 6 1 = 0 ∧ 1 < nfs 6 := ⟨⟨RX6, TX6, 8, rfl, by decide, wf_6, rfl, (Or.inr ⟨_, q_189⟩)⟩, by decide, by decide⟩
theorem f_RX0_36 : FG RX0 36 8 0 ∧ fty 8 0 = 0 ∧ 0 < nfs 8 := ⟨⟨RX8, TX8, 9, rfl, by decide, wf_8, rfl, (Or.inr ⟨_, q_234⟩)⟩, by decide, by decide⟩
theorem f_RX0_41 : FG RX0 41 8 3 ∧ fty 8 3 = 2 ∧ 3 < nfs 8 := ⟨⟨RX8, TX8, 9, rfl, by decide, wf_8, rfl, (Or.inr ⟨_, q_240⟩)⟩, by decide, by decide⟩
theorem f_RX0_44 : FG RX0 44 8 1 ∧ fty 8 1 = 2 ∧ 1 < nfs 8 := ⟨⟨RX8, TX8, 9, rfl, by decide, wf_8, rfl, (Or.inr ⟨_, q_236⟩)⟩, by decide, by decide⟩
theorem f_RX0_47 : FG RX0 47 8 2 ∧ fty 8 2 = 2 ∧ 2 < nfs 8 := ⟨⟨RX8, TX8, 9, rfl, by decide, wf_8, rfl, (Or.inr ⟨_, q_238⟩)⟩, by decide, by decide⟩
theorem f_RX0_79 : FG RX0 79 0 0 ∧ fty 0 0 = 0 ∧ 0 < nfs 0 := ⟨⟨RX0, TX0, 7, rfl, by decide, wf_0, rfl, (Or.inl q_271)⟩, by decide, by decide⟩
theorem f_RX0_80 : FG RX0 80 6 6 ∧ fty 6 6 = 2 ∧ 6 < nfs 6 := ⟨⟨RX6, TX6, 8, rfl, by decide, wf_6, rfl, (Or.inr ⟨_, q_204⟩)⟩, by decide, by decide⟩
theorem f_RX0_83 : FG RX0 83 6 7 ∧ fty 6 7 = 2 ∧ 7 < nfs 6 := ⟨⟨RX6, TX6, 8, rfl, by decide, wf_6, rfl, (Or.inr ⟨_, q_208⟩)⟩, by decide, by decide⟩
theorem f_RX0_9 : FG RX0 9 0 1 ∧ fty 0 1 = 2 ∧ 1 < nfs 0 := ⟨⟨RX0, TX0, 7, rfl, by decide, wf_0, rfl, (Or.inl q_273)⟩, by decide, by decide⟩
theorem f_RX10_100 : FG RX10 100 10 45 ∧ fty 10 45 = 2 ∧ 45 < nfs 10 := ⟨⟨RX10, TX10, 48, rfl, by decide, wf_10, rfl, (Or.inl q_931)⟩, by decide, by decide⟩
theorem f_RX10_103 : FG RX10 103 10 46 ∧ fty 10 46 = 2 ∧ 46 < nfs 10 := ⟨⟨RX10, TX10, 48, rfl, by decide, wf_10, rfl, (Or.inl q_932)⟩, by decide, by decide⟩
theorem f_RX10_106 : FG RX10 106 10 47 ∧ fty 10 47 = 2 ∧ 47 < nfs 10 := ⟨⟨RX10, TX10, 48, rfl, by decide, wf_10, rfl, (Or.inl q_933)⟩, by decide, by decide⟩
theorem f_RX10_109 : FG RX10 109 10 0 ∧ fty 10 0 = 0 ∧ 0 < nfs 10 := ⟨⟨RX10, TX10, 48, rfl, by decide, wf_10, rfl, (Or.inl q_886)⟩, by decide, by decide⟩
theorem f_RX10_13 : FG RX10 13 10 2 ∧ fty 10 2 = 2 ∧ 2 < nfs 10 := ⟨⟨RX10, TX10, 48, rfl, by decide, wf_10, rfl, (Or.inl q_888)⟩, by decide, by decide⟩
theorem f_RX10_140 : FG RX10 140 10 5 ∧ fty 10 5 = 0 ∧ 5 < nfs 10 := ⟨⟨RX10, TX10, 48, rfl, by decide, wf_10, rfl, (Or.inl q_891)⟩, by decide, by decide⟩
theorem f_RX10_143 : FG RX10 143 10 6 ∧ fty 10 6 = 1 ∧ 6 < nfs 10 := ⟨⟨RX10, TX10, 48, rfl, by decide, wf_10, rfl, (Or.inl q_892)⟩, by decide, by decide⟩
theorem f_RX10_147 : FG RX10 147 10 7 ∧ fty 10 7 = 1 ∧ 7 < nfs 10 := ⟨⟨RX10, TX10, 48, rfl, by decide, wf_10, rfl, (Or.inl q_893)⟩, by decide, by decide⟩
theorem f_RX10_150 : FG RX10 150 10 8 ∧ fty 10 8 = 1 ∧ 8 < nfs 10 := ⟨⟨RX10, TX10, 48, rfl, by decide, wf_10, rfl, (Or.inl q_894)⟩, by decide, by decide⟩
theorem f_RX10_16 : FG RX10 16 10 3 ∧ fty 10 3 = 2 ∧ 3 < nfs 10 := ⟨⟨RX10, TX10, 48, rfl, by decide, wf_10, rfl, (Or.inl q_889)⟩, by decide, by decide⟩
theorem f_RX10_176 : FG RX10 176 10 9 ∧ fty 10 9 = 0 ∧ 9 < nfs 10 := ⟨⟨RX10, TX10, 48, rfl, by decide, wf_10, rfl, (Or.inl q_895)⟩, by decide, by decide⟩
theorem f_RX10_19 : FG RX10 19 10 4 ∧ fty 10 4 = 2 ∧ 4 < nfs 10 := ⟨⟨RX10, TX10, 48, rfl, by decide, wf_10, rfl, (Or.inl q_890)⟩, by decide, by decide⟩
theorem f_RX10_22 : FG RX10 22 10 10 ∧ fty 10 10 = 2 ∧ 10 < nfs 10 := ⟨⟨RX10, TX10, 48, rfl, by decide, wf_10, rfl, (Or.inl q_896)⟩, by decide, by decide⟩
theorem f_RX10_221 : FG RX10 221 10 15 ∧ fty 10 15 = 0 ∧ 15 < nfs 10 := ⟨⟨RX10, TX10, 48, rfl, by decide, wf_10, rfl, (Or.inl q_901)⟩, by decide, by decide⟩
theorem f_RX10_247 : FG RX10 247 10 20 ∧ fty 10 20 = 0 ∧ 20 < nfs 10 := ⟨⟨RX10, TX10, 48, rfl, by decide, wf_10, rfl, (Or.inl q_906)⟩, by decide, by decide⟩
theorem f_RX10_26 : FG RX10 26 10 11 ∧ fty 10 11 = 2 ∧ 11 < nfs 10 := ⟨⟨RX10, TX10, 48, rfl, by decide, wf_10, rfl, (Or.inl q_897)⟩, by decide, by decide⟩
theorem f_RX10_267 : FG RX10 267 10 23 ∧ fty 10 23 = 0 ∧ 23 < nfs 10 := ⟨⟨RX10, TX10, 48, rfl, by decide, wf_10, rfl, (Or.inl q_909)⟩, by decide, by decide⟩
theorem f_RX10_278 : FG RX10 278 10 22 ∧ fty 10 22 = 0 ∧ 22 < nfs 10 := ⟨⟨RX10, TX10, 48, rfl, by decide, wf_10, rfl, (Or.inl q_908)⟩, by decide, by decide⟩
theorem f_RX10_29 : FG RX10 29 10 12 ∧ fty 10 12 = 2 ∧ 12 < nfs 10 := ⟨⟨RX10, TX10, 48, rfl, by decide, wf_10, rfl, (Or.inl q_898)⟩, by decide, by decide⟩
theorem f_RX10_290 : FG RX10 290 10 33 ∧ fty 10 33 = 1 ∧ 33 < nfs 10 := ⟨⟨RX10, TX10, 48, rfl, by decide, wf_10, rfl, (Or.inl q_919)⟩, by decide, by decide⟩
theorem f_RX10_293 : FG RX10 293 10 34 ∧ fty 10 34 = 1 ∧ 34 < nfs 10 := ⟨⟨RX10, TX10, 48, rfl, by decide, wf_10, rfl, (Or.inl q_920)⟩, by decide, by decide⟩
theorem f_RX10_296 : FG RX10 296 10 35 ∧ fty 10 35 = 1 ∧ 35 < nfs 10 := ⟨⟨RX10, TX10, 48, rfl, by decide, wf_10, rfl, (Or.inl q_921)⟩, by decide, by decide⟩
theorem f_RX10_299 : FG RX10 299 10 36 ∧ fty 10 36 = 1 ∧ 36 < nfs 10 := ⟨⟨RX10, TX10, 48, rfl, by decide, wf_10, rfl, (Or.inl q_922)⟩, by decide, by decide⟩
theorem f_RX10_32 : FG RX10 32 10 13 ∧ fty 10 13 = 2 ∧ 13 < nfs 10 := ⟨⟨RX10, TX10, 48, rfl, by decide, wf_10, rfl, (Or.inl q_899)⟩, by decide, by decide⟩
theorem f_RX10_324 : FG RX10 324 10 24 ∧ fty 10 24 = 0 ∧ 24 < nfs 10 := ⟨⟨RX10, TX10, 48, rfl, by decide, wf_10, rfl, (Or.inl q_910)⟩, by decide, by decide⟩
theorem f_RX10_35 : FG RX10 35 10 14 ∧ fty 10 14 = 2 ∧ 14 < nfs 10 := ⟨⟨RX10, TX10, 48, rfl, by decide, wf_10, rfl, (Or.inl q_900)⟩, by decide, by decide⟩
theorem f_RX10_379 : FG RX10 379 10 42 ∧ fty 10 42 = 0 ∧ 42 < nfs 10 := ⟨⟨RX10, TX10, 48, rfl, by decide, wf_10, rfl, (Or.inl q_928)⟩, by decide, by decide⟩
theorem f_RX10_38 : FG RX10 38 10 16 ∧ fty 10 16 = 2 ∧ 16 < nfs 10 := ⟨⟨RX10, TX10, 48, rfl, by decide, wf_10, rfl, (Or.inl q_902)⟩, by decide, by decide⟩
theorem f_RX10_398 : FG RX10 398 10 43 ∧ fty 10 43 = 0 ∧ 43 < nfs 10 := ⟨⟨RX10, TX10, 48, rfl, by decide, wf_10, rfl, (Or.inl q_929)⟩, by decide, by decide⟩
theorem f_RX10_41 : FG RX10 41 10 17 ∧ fty 10 17 = 2 ∧ 17 < nfs 10 := ⟨⟨RX10, TX10, 48, rfl, by decide, wf_10, rfl, (Or.inl q_903)⟩, by decide, by decide⟩
theorem f_RX10_44 : FG RX10 44 10 18 ∧ fty 10 18 = 2 ∧ 18 < nfs 10 := ⟨⟨RX10, TX10, 48, rfl, by decide, wf_10, rfl, (Or.inl q_904)⟩, by decide, by decide⟩
theorem f_RX10_47 : FG RX10 47 10 19 ∧ fty 10 19 = 2 ∧ 19 < nfs 10 := ⟨⟨RX10, TX10, 48, rfl, by decide, wf_10, rfl, (Or.inl q_905)⟩, by decide, by decide⟩
theorem f_RX10_51 : FG RX10 51 10 21 ∧ fty 10 21 = 2 ∧ 21 < nfs 10 := ⟨⟨RX10, TX10, 48, rfl, by decide, wf_10, rfl, (Or.inl q_907)⟩, by decide, by decide⟩
theorem f_RX10_54 : FG RX10 54 10 25 ∧ fty 10 25 = 2 ∧ 25 < nfs 10 := ⟨⟨RX10, TX10, 48, rfl, by decide, wf_10, rfl, (Or.inl q_911)⟩, by decide, by decide⟩
theorem f_RX10_57 : FG RX10 57 10 26 ∧ fty 10 26 = 2 ∧ 26 < nfs 10 := ⟨⟨RX10, TX10, 48, rfl, by decide, wf_10, rfl, (Or.inl q_912)⟩, by decide, by decide⟩
theorem f_RX10_60 : FG RX10 60 10 27 ∧ fty 10 27 = 2 ∧ 27 < nfs 10 := ⟨⟨RX10, TX10, 48, rfl, by decide, wf_10, rfl, (Or.inl q_913)⟩, by decide, by decide⟩
theorem f_RX10_63 : FG RX10 63 10 28 ∧ fty 10 28 = 2 ∧ 28 < nfs 10 := ⟨⟨RX10, TX10, 48, rfl, by decide, wf_10, rfl, (Or.inl q_914)⟩, by decide, by decide⟩
theorem f_RX10_66 : FG RX10 66 10 29 ∧ fty 10 29 = 2 ∧ 29 < nfs 10 := ⟨⟨RX10, TX10, 48, rfl, by decide, wf_10, rfl, (Or.inl q_915)⟩, by decide, by decide⟩
theorem f_RX10_69 : FG RX10 69 10 30 ∧ fty 10 30 = 2 ∧ 30 < nfs 10 := ⟨⟨RX10, TX10, 48, rfl, by decide, wf_10, rfl, (Or.inl q_916)⟩, by decide, by decide⟩
theorem f_RX10_72 : FG RX10 72 10 31 ∧ fty 10 31 = 2 ∧ 31 < nfs 10 := ⟨⟨RX10, TX10, 48, rfl, by decide, wf_10, rfl, (Or.inl q_917)⟩, by decide, by decide⟩
theorem f_RX10_75 : FG RX10 75 10 32 ∧ fty 10 32 = 2 ∧ 32 < nfs 10 := ⟨⟨RX10, TX10, 48, rfl, by decide, wf_10, rfl, (Or.inl q_918)⟩, by decide, by decide⟩
theorem f_RX10_78 : FG RX10 78 10 37 ∧ fty 10 37 = 2 ∧ 37 < nfs 10 := ⟨⟨RX10, TX10, 48, rfl, by decide, wf_10, rfl, (Or.inl q_923)⟩, by decide, by decide⟩
theorem f_RX10_83 : FG RX10 83 10 38 ∧ fty 10 38 = 2 ∧ 38 < nfs 10 := ⟨⟨RX10, TX10, 48, rfl, by decide, wf_10, rfl, (Or.inl q_924)⟩, by decide, by decide⟩
theorem f_RX10_86 : FG RX10 86 10 39 ∧ fty 10 39 = 2 ∧ 39 < nfs 10 := ⟨⟨RX10, TX10, 48, rfl, by decide, wf_10, rfl, (Or.inl q_925)⟩, by decide, by decide⟩
theorem f_RX10_89 : FG RX10 89 10 40 ∧ fty 10 40 = 2 ∧ 40 < nfs 10 := ⟨⟨RX10, TX10, 48, rfl, by decide, wf_10, rfl, (Or.inl q_926)⟩, by decide, by decide⟩
theorem f_RX10_9 : FG RX10 9 10 1 ∧ fty 10 1 = 2 ∧ 1 < nfs 10 := ⟨⟨RX10, TX10, 48, rfl, by decide, wf_10, rfl, (Or.inl q_887)⟩, by decide, by decide⟩
theorem f_RX10_94 : FG RX10 94 10 41 ∧ fty 10 41 = 2 ∧ 41 < nfs 10 := ⟨⟨RX10, TX10, 48, rfl, by decide, wf_10, rfl, (Or.inl q_927)⟩, by decide, by decide⟩
theorem f_RX10_97 : FG RX10 97 10 44 ∧ fty 10 44 = 2 ∧ 44 < nfs 10 := ⟨⟨RX10, TX10, 48, rfl, by decide, wf_10, rfl, (Or.inl q_930)⟩, by decide, by decide⟩
theorem f_RX1_15 : FG RX1 15 1 3 ∧ fty 1 3 = 2 ∧ 3 < nfs 1 := ⟨⟨RX1, TX1, 5, rfl, by decide, wf_1, rfl, (Or.inl q_309)⟩, by decide, by decide⟩
theorem f_RX1_18 : FG RX1 18 1 4 ∧ fty 1 4 = 2 ∧ 4 < nfs 1 := ⟨⟨RX1, TX1, 5, rfl, by decide, wf_1, rfl, (Or.inl q_310)⟩, by decide, by decide⟩
theorem f_RX1_21 : FG RX1 21 1 1 ∧ fty 1 1 = 0 ∧ 1 < nfs 1 := ⟨⟨RX1, TX1, 5, rfl, by decide, wf_1, rfl, (Or.inl q_307)⟩, by decide, by decide⟩
theorem f_RX1_25 : FG RX1 25 2 0 ∧ fty 2 0 = 0 ∧ 0 < nfs 2 := ⟨⟨RX2, TX2, 5, rfl, by decide, wf_2, rfl, (Or.inr ⟨_, q_32⟩)⟩, by decide, by decide⟩
theorem f_RX1_30 : FG RX1 30 2 1 ∧ fty 2 1 = 2 ∧ 1 < nfs 2 := ⟨⟨RX2, TX2, 5, rfl, by decide, wf_2, rfl, (Or.inr ⟨_, q_38⟩)⟩, by decide, by decide⟩
theorem f_RX1_33 : FG RX1 33 2 2 ∧ fty 2 2 = 2 ∧ 2 < nfs 2 := ⟨⟨RX2, TX2, 5, rfl, by decide, wf_2, rfl, (Or.inr ⟨_, q_42⟩)⟩, by decide, by decide⟩
theorem f_RX1_40 : FG RX1 40 2 3 ∧ fty 2 3 = 2 ∧ 3 < nfs 2 := ⟨⟨RX2, TX2, 5, rfl, by decide, wf_2, rfl, (Or.inr ⟨_, q_48⟩)⟩, by decide, by decide⟩
theorem f_RX1_43 : FG RX1 43 2 4 ∧ fty 2 4 = 2 ∧ 4 < nfs 2 := ⟨⟨RX2, TX2, 5, rfl, by decide, wf_2, rfl, (Or.inr ⟨_, q_53⟩)⟩, by decide, by decide⟩
theorem f_RX1_46 : FG RX1 46 1 0 ∧ fty 1 0 = 0 ∧ 0 < nfs 1 := ⟨⟨RX1, TX1, 5, rfl, by decide, wf_1, rfl, (Or.inl q_305)⟩, by decide, by decide⟩
theorem f_RX1_9 : FG RX1 9 1 2 ∧ fty 1 2 = 2 ∧ 2 < nfs 1 := ⟨⟨RX1, TX1, 5, rfl, by decide, wf_1, rfl, (Or.inl q_308)⟩, by decide, by decide⟩
theorem f_RX2_15 : FG RX2 15 2 2 ∧ fty 2 2 = 2 ∧ 2 < nfs 2 := ⟨⟨RX2, TX2, 5, rfl, by decide, wf_2, rfl, (Or.inl q_41)⟩, by decide, by decide⟩
theorem f_RX2_18 : FG RX2 18 2 3 ∧ fty 2 3 = 2 ∧ 3 < nfs 2 := ⟨⟨RX2, TX2, 5, rfl, by decide, wf_2, rfl, (Or.inl q_47)⟩, by decide, by decide⟩
theorem f_RX2_21 : FG RX2 21 2 4 ∧ fty 2 4 = 2 ∧ 4 < nfs 2 := ⟨⟨RX2, TX2, 5, rfl, by decide, wf_2, rfl, (Or.inl q_52)⟩, by decide, by decide⟩
theorem f_RX2_24 : FG RX2 24 2 0 ∧ fty 2 0 = 0 ∧ 0 < nfs 2 := ⟨⟨RX2, TX2, 5, rfl, by decide, wf_2, rfl, (Or.inl q_30)⟩, by decide, by decide⟩
theorem f_RX2_9 : FG RX2 9 2 1 ∧ fty 2 1 = 2 ∧ 1 < nfs 2 := ⟨⟨RX2, TX2, 5, rfl, by decide, wf_2, rfl, (Or.inl q_36)⟩, by decide, by decide⟩
theorem f_RX3_24 : FG RX3 24 2 1 ∧ fty 2 1 = 2 ∧ 1 < nfs 2 := ⟨⟨RX2, TX2, 5, rfl, by decide, wf_2, rfl, (Or.inr ⟨_, q_39⟩)⟩, by decide, by decide⟩
theorem f_RX3_28 : FG RX3 28 2 2 ∧ fty 2 2 = 2 ∧ 2 < nfs 2 := ⟨⟨RX2, TX2, 5, rfl, by decide, wf_2, rfl, (Or.inr ⟨_, q_45⟩)⟩, by decide, by decide⟩
theorem f_RX3_43 : FG RX3 43 2 3 ∧ fty 2 3 = 2 ∧ 3 < nfs 2 := ⟨⟨RX2, TX2, 5, rfl, by decide, wf_2, rfl, (Or.inr ⟨_, q_50⟩)⟩, by decide, by decide⟩
theorem f_RX3_46 : FG RX3 46 2 4 ∧ fty 2 4 = 2 ∧ 4 < nfs 2 := ⟨⟨RX2, TX2, 5, rfl, by decide, wf_2, rfl, (Or.inr ⟨_, q_56⟩)⟩, by decide, by decide⟩
theorem f_RX3_9 : FG RX3 9 3 0 ∧ fty 3 0 = 0 ∧ 0 < nfs 3 := ⟨⟨RX3, TX3, 5, rfl, by decide, wf_3, rfl, (Or.inl q_82)⟩, by decide, by decide⟩
theorem f_RX4_130 : FG RX4 130 4 2 ∧ fty 4 2 = 0 ∧ 2 < nfs 4 := ⟨⟨RX4, TX4, 11, rfl, by decide, wf_4, rfl, (Or.inl q_114)⟩, by decide, by decide⟩
theorem f_RX4_15 : FG RX4 15 4 4 ∧ fty 4 4 = 2 ∧ 4 < nfs 4 := ⟨⟨RX4, TX4, 11, rfl, by decide, wf_4, rfl, (Or.inl q_119)⟩, by decide, by decide⟩
theorem f_RX4_18 : FG RX4 18 4 5 ∧ fty 4 5 = 2 ∧ 5 < nfs 4 := ⟨⟨RX4, TX4, 11, rfl, by decide, wf_4, rfl, (Or.inl q_122)⟩, by decide, by decide⟩
theorem f_RX4_21 : FG RX4 21 4 6 ∧ fty 4 6 = 2 ∧ 6 < nfs 4 := ⟨⟨RX4, TX4, 11, rfl, by decide, wf_4, rfl, (Or.inl q_124)⟩, by decide, by decide⟩
theorem f_RX4_24 : FG RX4 24 4 7 ∧ fty 4 7 = 2 ∧ 7 < nfs 4 := ⟨⟨RX4, TX4, 11, rfl, by decide, wf_4, rfl, (Or.inl q_126)⟩, by decide, by decide⟩
theorem f_RX4_28 : FG RX4 28 4 8 ∧ fty 4 8 = 2 ∧ 8 < nfs 4 := ⟨⟨RX4, TX4, 11, rfl, by decide, wf_4, rfl, (Or.inl q_128)⟩, by decide, by decide⟩
theorem f_RX4_31 : FG RX4 31 4 9 ∧ fty 4 9 = 2 ∧ 9 < nfs 4 := ⟨⟨RX4, TX4, 11, rfl, by decide, wf_4, rfl, (Or.inl q_130)⟩, by decide, by decide⟩
theorem f_RX4_37 : FG RX4 37 4 10 ∧ fty 4 10 = 2 ∧ 10 < nfs 4 := ⟨⟨RX4, TX4, 11, rfl, by decide, wf_4, rfl, (Or.inl q_132)⟩, by decide, by decide⟩
theorem f_RX4_41 : FG RX4 41 4 0 ∧ fty 4 0 = 0 ∧ 0 < nfs 4 := ⟨⟨RX4, TX4, 11, rfl, by decide, wf_4, rfl, (Or.inl q_109)⟩, by decide, by decide⟩
theorem f_RX4_45 : FG RX4 45 2 0 ∧ fty 2 0 = 0 ∧ 0 < nfs 2 := ⟨⟨RX2, TX2, 5, rfl, by decide, wf_2, rfl, (Or.inr ⟨_, q_31⟩)⟩, by decide, by decide⟩
theorem f_RX4_48 : FG RX4 48 2 1 ∧ fty 2 1 = 2 ∧ 1 < nfs 2 := ⟨⟨RX2, TX2, 5, rfl, by decide, wf_2, rfl, (Or.inr ⟨_, q_37⟩)⟩, by decide, by decide⟩
theorem f_RX4_51 : FG RX4 51 2 2 ∧ fty 2 2 = 2 ∧ 2 < nfs 2 := ⟨⟨RX2, TX2, 5, rfl, by decide, wf_2, rfl, (Or.inr ⟨_, q_43⟩)⟩, by decide, by decide⟩
theorem f_RX4_58 : FG RX4 58 2 3 ∧ fty 2 3 = 2 ∧ 3 < nfs 2 := ⟨⟨RX2, TX2, 5, rfl, by decide, wf_2, rfl, (Or.inr ⟨_, q_49⟩)⟩, by decide, by decide⟩
theorem f_RX4_61 : FG RX4 61 2 4 ∧ fty 2 4 = 2 ∧ 4 < nfs 2 := ⟨⟨RX2, TX2, 5, rfl, by decide, wf_2, rfl, (Or.inr ⟨_, q_54⟩)⟩, by decide, by decide⟩
theorem f_RX4_72 : FG RX4 72 4 1 ∧ fty 4 1 = 0 ∧ 1 < nfs 4 := ⟨⟨RX4, TX4, 11, rfl, by decide, wf_4, rfl, (Or.inl q_112)⟩, by decide, by decide⟩
theorem f_RX4_86 : FG RX4 86 3 0 ∧ fty 3 0 = 0 ∧ 0 < nfs 3 := ⟨⟨RX3, TX3, 5, rfl, by decide, wf_3, rfl, (Or.inr ⟨_, q_83⟩)⟩, by decide, by decide⟩
theorem f_RX4_89 : FG RX4 89 3 1 ∧ fty 3 1 = 1 ∧ 1 < nfs 3 := ⟨⟨RX3, TX3, 5, rfl, by decide, wf_3, rfl, (Or.inr ⟨_, q_85⟩)⟩, by decide, by decide⟩
theorem f_RX4_9 : FG RX4 9 4 3 ∧ fty 4 3 = 2 ∧ 3 < nfs 4 := ⟨⟨RX4, TX4, 11, rfl, by decide, wf_4, rfl, (Or.inl q_116)⟩, by decide, by decide⟩
theorem f_RX4_92 : FG RX4 92 3 2 ∧ fty 3 2 = 1 ∧ 2 < nfs 3 := ⟨⟨RX3, TX3, 5, rfl, by decide, wf_3, rfl, (Or.inr ⟨_, q_88⟩)⟩, by decide, by decide⟩
theorem f_RX4_94 : FG RX4 94 3 3 ∧ fty 3 3 = 1 ∧ 3 < nfs 3 := ⟨⟨RX3, TX3, 5, rfl, by decide, wf_3, rfl, (Or.inr ⟨_, q_91⟩)⟩, by decide, by decide⟩
theorem f_RX4_96 : FG RX4 96 3 4 ∧ fty 3 4 = 1 ∧ 4 < nfs 3 := ⟨⟨RX3, TX3, 5, rfl, by decide, wf_3, rfl, (Or.inr ⟨_, q_94⟩)⟩, by decide, by decide⟩
theorem f_RX5_15 : FG RX5 15 5 1 ∧ fty 5 1 = 2 ∧ 1 < nfs 5 := ⟨⟨RX5, TX5, 3, rfl, by decide, wf_5, rfl, (Or.inl q_330)⟩, by decide, by decide⟩
theorem f_RX5_18 : FG RX5 18 5 2 ∧ fty 5 2 = 2 ∧ 2 < nfs 5 := ⟨⟨RX5, TX5, 3, rfl, by decide, wf_5, rfl, (Or.inl q_332)⟩, by decide, by decide⟩
theorem f_RX5_21 : FG RX5 21 7 0 ∧ fty 7 0 = 0 ∧ 0 < nfs 7 := ⟨⟨RX7, TX7, 3, rfl, by decide, wf_7, rfl, (Or.inr ⟨_, q_166⟩)⟩, by decide, by decide⟩
theorem f_RX5_26 : FG RX5 26 7 1 ∧ fty 7 1 = 2 ∧ 1 < nfs 7 := ⟨⟨RX7, TX7, 3, rfl, by decide, wf_7, rfl, (Or.inr ⟨_, q_170⟩)⟩, by decide, by decide⟩
theorem f_RX5_9 : FG RX5 9 5 0 ∧ fty 5 0 = 2 ∧ 0 < nfs 5 := ⟨⟨RX5, TX5, 3, rfl, by decide, wf_5, rfl, (Or.inl q_328)⟩, by decide, by decide⟩
theorem f_RX6_15 : FG RX6 15 6 3 ∧ fty 6 3 = 2 ∧ 3 < nfs 6 := ⟨⟨RX6, TX6, 8, rfl, by decide, wf_6, rfl, (Or.inl q_195)⟩, by decide, by decide⟩
theorem f_RX6_18 : FG RX6 18 6 4 ∧ fty 6 4 = 2 ∧ 4 < nfs 6 := ⟨⟨RX6, TX6, 8, rfl, by decide, wf_6, rfl, (Or.inl q_198)⟩, by decide, by decide⟩
theorem f_RX6_22 : FG RX6 22 6 5 ∧ fty 6 5 = 2 ∧ 5 < nfs 6 := ⟨⟨RX6, TX6, 8, rfl, by decide, wf_6, rfl, (Or.inl q_201)⟩, by decide, by decide⟩
theorem f_RX6_25 : FG RX6 25 6 6 ∧ fty 6 6 = 2 ∧ 6 < nfs 6 := ⟨⟨RX6, TX6, 8, rfl, by decide, wf_6, rfl, (Or.inl q_203)⟩, by decide, by decide⟩
theorem f_RX6_28 : FG RX6 28 6 7 ∧ fty 6 7 = 2 ∧ 7 < nfs 6 := ⟨⟨RX6, TX6, 8, rfl, by decide, wf_6, rfl, (Or.inl q_206)⟩, by decide, by decide⟩
theorem f_RX6_35 : FG RX6 35 6 1 ∧ fty 6 1 = 0 ∧ 1 < nfs 6 := ⟨⟨RX6, TX6, 8, rfl, by decide, wf_6, rfl, (Or.inl q_190)⟩, by decide, by decide⟩
theorem f_RX6_39 : FG RX6 39 6 0 ∧ fty 6 0 = 0 ∧ 0 < nfs 6 := ⟨⟨RX6, TX6, 8, rfl, by decide, wf_6, rfl, (Or.inl q_187)⟩, by decide, by decide⟩
theorem f_RX6_56 : FG RX6 56 4 0 ∧ fty 4 0 = 0 ∧ 0 < nfs 4 := ⟨⟨RX4, TX4, 11, rfl, by decide, wf_4, rfl, (Or.inr ⟨_, q_110⟩)⟩, by decide, by decide⟩
theorem f_RX6_61 : FG RX6 61 4 3 ∧ fty 4 3 = 2 ∧ 3 < nfs 4 := ⟨⟨RX4, TX4, 11, rfl, by decide, wf_4, rfl, (Or.inr ⟨_, q_117⟩)⟩, by decide, by decide⟩
theorem f_RX6_62 : FG RX6 62 4 4 ∧ fty 4 4 = 2 ∧ 4 < nfs 4 := ⟨⟨RX4, TX4, 11, rfl, by decide, wf_4, rfl, (Or.inr ⟨_, q_120⟩)⟩, by decide, by decide⟩
theorem f_RX6_67 : FG RX6 67 7 0 ∧ fty 7 0 = 0 ∧ 0 < nfs 7 := ⟨⟨RX7, TX7, 3, rfl, by decide, wf_7, rfl, (Or.inr ⟨_, q_165⟩)⟩, by decide, by decide⟩
theorem f_RX6_68 : FG RX6 68 7 1 ∧ fty 7 1 = 2 ∧ 1 < nfs 7 := ⟨⟨RX7, TX7, 3, rfl, by decide, wf_7, rfl, (Or.inr ⟨_, q_169⟩)⟩, by decide, by decide⟩
theorem f_RX6_9 : FG RX6 9 6 2 ∧ fty 6 2 = 2 ∧ 2 < nfs 6 := ⟨⟨RX6, TX6, 8, rfl, by decide, wf_6, rfl, (Or.inl q_192)⟩, by decide, by decide⟩
theorem f_RX7_15 : FG RX7 15 7 2 ∧ fty 7 2 = 2 ∧ 2 < nfs 7 := ⟨⟨RX7, TX7, 3, rfl, by decide, wf_7, rfl, (Or.inl q_172)⟩, by decide, by decide⟩
theorem f_RX7_19 : FG RX7 19 7 0 ∧ fty 7 0 = 0 ∧ 0 < nfs 7 := ⟨⟨RX7, TX7, 3, rfl, by decide, wf_7, rfl, (Or.inl q_164)⟩, by decide, by decide⟩
theorem f_RX7_23 : FG RX7 23 2 0 ∧ fty 2 0 = 0 ∧ 0 < nfs 2 := ⟨⟨RX2, TX2, 5, rfl, by decide, wf_2, rfl, (Or.inr ⟨_, q_33⟩)⟩, by decide, by decide⟩
theorem f_RX7_9 : FG RX7 9 7 1 ∧ fty 7 1 = 2 ∧ 1 < nfs 7 := ⟨⟨RX7, TX7, 3, rfl, by decide, wf_7, rfl, (Or.inl q_168)⟩, by decide, by decide⟩
theorem f_RX8_108 : FG RX8 108 6 7 ∧ fty 6 7 = 2 ∧ 7 < nfs 6 := ⟨⟨RX6, TX6, 8, rfl, by decide, wf_6, rfl, (Or.inr ⟨_, q_207⟩)⟩, by decide, by decide⟩
theorem f_RX8_15 : FG RX8 15 8 2 ∧ fty 8 2 = 2 ∧ 2 < nfs 8 := ⟨⟨RX8, TX8, 9, rfl, by decide, wf_8, rfl, (Or.inl q_237)⟩, by decide, by decide⟩
theorem f_RX8_18 : FG RX8 18 8 3 ∧ fty 8 3 = 2 ∧ 3 < nfs 8 := ⟨⟨RX8, TX8, 9, rfl, by decide, wf_8, rfl, (Or.inl q_239)⟩, by decide, by decide⟩
theorem f_RX8_21 : FG RX8 21 8 5 ∧ fty 8 5 = 2 ∧ 5 < nfs 8 := ⟨⟨RX8, TX8, 9, rfl, by decide, wf_8, rfl, (Or.inl q_242)⟩, by decide, by decide⟩
theorem f_RX8_25 : FG RX8 25 8 6 ∧ fty 8 6 = 2 ∧ 6 < nfs 8 := ⟨⟨RX8, TX8, 9, rfl, by decide, wf_8, rfl, (Or.inl q_243)⟩, by decide, by decide⟩
theorem f_RX8_28 : FG RX8 28 8 7 ∧ fty 8 7 = 2 ∧ 7 < nfs 8 := ⟨⟨RX8, TX8, 9, rfl, by decide, wf_8, rfl, (Or.inl q_244)⟩, by decide, by decide⟩
theorem f_RX8_31 : FG RX8 31 8 8 ∧ fty 8 8 = 2 ∧ 8 < nfs 8 := ⟨⟨RX8, TX8, 9, rfl, by decide, wf_8, rfl, (Or.inl q_245)⟩, by decide, by decide⟩
theorem f_RX8_34 : FG RX8 34 8 0 ∧ fty 8 0 = 0 ∧ 0 < nfs 8 := ⟨⟨RX8, TX8, 9, rfl, by decide, wf_8, rfl, (Or.inl q_233)⟩, by decide, by decide⟩
theorem f_RX8_38 : FG RX8 38 6 0 ∧ fty 6 0 = 0 ∧ 0 < nfs 6 := ⟨⟨RX6, TX6, 8, rfl, by decide, wf_6, rfl, (Or.inr ⟨_, q_186⟩)⟩, by decide, by decide⟩
theorem f_RX8_43 : FG RX8 43 6 2 ∧ fty 6 2 = 2 ∧ 2 < nfs 6 := ⟨⟨RX6, TX6, 8, rfl, by decide, wf_6, rfl, (Or.inr ⟨_, q_193⟩)⟩, by decide, by decide⟩
theorem f_RX8_46 : FG RX8 46 6 3 ∧ fty 6 3 = 2 ∧ 3 < nfs 6 := ⟨⟨RX6, TX6, 8, rfl, by decide, wf_6, rfl, (Or.inr ⟨_, q_196⟩)⟩, by decide, by decide⟩
theorem f_RX8_53 : FG RX8 53 6 4 ∧ fty 6 4 = 2 ∧ 4 < nfs 6 := ⟨⟨RX6, TX6, 8, rfl, by decide, wf_6, rfl, (Or.inr ⟨_, q_199⟩)⟩, by decide, by decide⟩
theorem f_RX8_56 : FG RX8 56 8 4 ∧ fty 8 4 = 0 ∧ 4 < nfs 8 := ⟨⟨RX8, TX8, 9, rfl, by decide, wf_8, rfl, (Or.inl q_241)⟩, by decide, by decide⟩
theorem f_RX8_71 : FG RX8 71 2 0 ∧ fty 2 0 = 0 ∧ 0 < nfs 2 := ⟨⟨RX2, TX2, 5, rfl, by decide, wf_2, rfl, (Or.inr ⟨_, q_34⟩)⟩, by decide, by decide⟩
theorem f_RX8_82 : FG RX8 82 2 2 ∧ fty 2 2 = 2 ∧ 2 < nfs 2 := ⟨⟨RX2, TX2, 5, rfl, by decide, wf_2, rfl, (Or.inr ⟨_, q_44⟩)⟩, by decide, by decide⟩
theorem f_RX8_89 : FG RX8 89 2 4 ∧ fty 2 4 = 2 ∧ 4 < nfs 2 := ⟨⟨RX2, TX2, 5, rfl, by decide, wf_2, rfl, (Or.inr ⟨_, q_55⟩)⟩, by decide, by decide⟩
theorem f_RX8_9 : FG RX8 9 8 1 ∧ fty 8 1 = 2 ∧ 1 < nfs 8 := ⟨⟨RX8, TX8, 9, rfl, by decide, wf_8, rfl, (Or.inl q_235)⟩, by decide, by decide⟩
theorem f_RX9_104 : FG RX9 104 2 0 ∧ fty 2 0 = 0 ∧ 0 < nfs 2 := ⟨⟨RX2, TX2, 5, rfl, by decide, wf_2, rfl, (Or.inr ⟨_, q_35⟩)⟩, by decide, by decide⟩
theorem f_RX9_108 : FG RX9 108 2 3 ∧ fty 2 3 = 2 ∧ 3 < nfs 2 := ⟨⟨RX2, TX2, 5, rfl, by decide, wf_2, rfl, (Or.inr ⟨_, q_51⟩)⟩, by decide, by decide⟩
theorem f_RX9_112 : FG RX9 112 2 1 ∧ fty 2 1 = 2 ∧ 1 < nfs 2 := ⟨⟨RX2, TX2, 5, rfl, by decide, wf_2, rfl, (Or.inr ⟨_, q_40⟩)⟩, by decide, by decide⟩
theorem f_RX9_115 : FG RX9 115 2 4 ∧ fty 2 4 = 2 ∧ 4 < nfs 2 := ⟨⟨RX2, TX2, 5, rfl, by decide, wf_2, rfl, (Or.inr ⟨_, q_57⟩)⟩, by decide, by decide⟩
theorem f_RX9_118 : FG RX9 118 2 2 ∧ fty 2 2 = 2 ∧ 2 < nfs 2 := ⟨⟨RX2, TX2, 5, rfl, by decide, wf_2, rfl, (Or.inr ⟨_, q_46⟩)⟩, by decide, by decide⟩
theorem f_RX9_12 : FG RX9 12 9 0 ∧ fty 9 0 = 2 ∧ 0 < nfs 9 := ⟨⟨RX9, TX9, 16, rfl, by decide, wf_9, rfl, (Or.inl q_341)⟩, by decide, by decide⟩
theorem f_RX9_150 : FG RX9 150 3 0 ∧ fty 3 0 = 0 ∧ 0 < nfs 3 := ⟨⟨RX3, TX3, 5, rfl, by decide, wf_3, rfl, (Or.inr ⟨_, q_84⟩)⟩, by decide, by decide⟩
theorem f_RX9_156 : FG RX9 156 3 1 ∧ fty 3 1 = 1 ∧ 1 < nfs 3 := ⟨⟨RX3, TX3, 5, rfl, by decide, wf_3, rfl, (Or.inr ⟨_, q_87⟩)⟩, by decide, by decide⟩
theorem f_RX9_16 : FG RX9 16 9 1 ∧ fty 9 1 = 2 ∧ 1 < nfs 9 := ⟨⟨RX9, TX9, 16, rfl, by decide, wf_9, rfl, (Or.inl q_342)⟩, by decide, by decide⟩
theorem f_RX9_160 : FG RX9 160 3 2 ∧ fty 3 2 = 1 ∧ 2 < nfs 3 := ⟨⟨RX3, TX3, 5, rfl, by decide, wf_3, rfl, (Or.inr ⟨_, q_90⟩)⟩, by decide, by decide⟩
theorem f_RX9_163 : FG RX9 163 3 3 ∧ fty 3 3 = 1 ∧ 3 < nfs 3 := ⟨⟨RX3, TX3, 5, rfl, by decide, wf_3, rfl, (Or.inr ⟨_, q_93⟩)⟩, by decide, by decide⟩
theorem f_RX9_166 : FG RX9 166 3 4 ∧ fty 3 4 = 1 ∧ 4 < nfs 3 := ⟨⟨RX3, TX3, 5, rfl, by decide, wf_3, rfl, (Or.inr ⟨_, q_96⟩)⟩, by decide, by decide⟩
theorem f_RX9_169 : FG RX9 169 4 0 ∧ fty 4 0 = 0 ∧ 0 < nfs 4 := ⟨⟨RX4, TX4, 11, rfl, by decide, wf_4, rfl, (Or.inr ⟨_, q_111⟩)⟩, by decide, by decide⟩
theorem f_RX9_170 : FG RX9 170 4 3 ∧ fty 4 3 = 2 ∧ 3 < nfs 4 := ⟨⟨RX4, TX4, 11, rfl, by decide, wf_4, rfl, (Or.inr ⟨_, q_118⟩)⟩, by decide, by decide⟩
theorem f_RX9_173 : FG RX9 173 4 4 ∧ fty 4 4 = 2 ∧ 4 < nfs 4 := ⟨⟨RX4, TX4, 11, rfl, by decide, wf_4, rfl, (Or.inr ⟨_, q_121⟩)⟩, by decide, by decide⟩
theorem f_RX9_175 : FG RX9 175 4 5 ∧ fty 4 5 = 2 ∧ 5 < nfs 4 := ⟨⟨RX4, TX4, 11, rfl, by decide, wf_4, rfl, (Or.inr ⟨_, q_123⟩)⟩, by decide, by decide⟩
theorem f_RX9_177 : FG RX9 177 4 6 ∧ fty 4 6 = 2 ∧ 6 < nfs 4 := ⟨⟨RX4, TX4, 11, rfl, by decide, wf_4, rfl, (Or.inr ⟨_, q_125⟩)⟩, by decide, by decide⟩
theorem f_RX9_179 : FG RX9 179 4 7 ∧ fty 4 7 = 2 ∧ 7 < nfs 4 := ⟨⟨RX4, TX4, 11, rfl, by decide, wf_4, rfl, (Or.inr ⟨_, q_127⟩)⟩, by decide, by decide⟩
theorem f_RX9_186 : FG RX9 186 4 8 ∧ fty 4 8 = 2 ∧ 8 < nfs 4 := ⟨⟨RX4, TX4, 11, rfl, by decide, wf_4, rfl, (Or.inr ⟨_, q_129⟩)⟩, by decide, by decide⟩
theorem f_RX9_19 : FG RX9 19 9 2 ∧ fty 9 2 = 2 ∧ 2 < nfs 9 := ⟨⟨RX9, TX9, 16, rfl, by decide, wf_9, rfl, (Or.inl q_343)⟩, by decide, by decide⟩
theorem f_RX9_193 : FG RX9 193 7 0 ∧ fty 7 0 = 0 ∧ 0 < nfs 7 := ⟨⟨RX7, TX7, 3, rfl, by decide, wf_7, rfl, (Or.inr ⟨_, q_167⟩)⟩, by decide, by decide⟩
theorem f_RX9_194 : FG RX9 194 7 1 ∧ fty 7 1 = 2 ∧ 1 < nfs 7 := ⟨⟨RX7, TX7, 3, rfl, by decide, wf_7, rfl, (Or.inr ⟨_, q_171⟩)⟩, by decide, by decide⟩
theorem f_RX9_200 : FG RX9 200 6 0 ∧ fty 6 0 = 0 ∧ 0 < nfs 6 := ⟨⟨RX6, TX6, 8, rfl, by decide, wf_6, rfl, (Or.inr ⟨_, q_188⟩)⟩, by decide, by decide⟩
theorem f_RX9_203 : FG RX9 203 6 4 ∧ fty 6 4 = 2 ∧ 4 < nfs 6 := ⟨⟨RX6, TX6, 8, rfl, by decide, wf_6, rfl, (Or.inr ⟨_, q_200⟩)⟩, by decide, by decide⟩
theorem f_RX9_206 : FG RX9 206 6 2 ∧ fty 6 2 = 2 ∧ 2 < nfs 6 := ⟨⟨RX6, TX6, 8, rfl, by decide, wf_6, rfl, (Or.inr ⟨_, q_194⟩)⟩, by decide, by decide⟩
theorem f_RX9_207 : FG RX9 207 6 3 ∧ fty 6 3 = 2 ∧ 3 < nfs 6 := ⟨⟨RX6, TX6, 8, rfl, by decide, wf_6, rfl, (Or.inr ⟨_, q_197⟩)⟩, by decide, by decide⟩
theorem f_RX9_208 : FG RX9 208 6 1 ∧ fty 6 1 = 0 ∧ 1 < nfs 6 := ⟨⟨RX6, TX6, 8, rfl, by decide, wf_6, rfl, (Or.inr ⟨_, q_191⟩)⟩, by decide, by decide⟩
theorem f_RX9_211 : FG RX9 211 6 5 ∧ fty 6 5 = 2 ∧ 5 < nfs 6 := ⟨⟨RX6, TX6, 8, rfl, by decide, wf_6, rfl, (Or.inr ⟨_, q_202⟩)⟩, by decide, by decide⟩
theorem f_RX9_214 : FG RX9 214 0 2 ∧ fty 0 2 = 2 ∧ 2 < nfs 0 := ⟨⟨RX0, TX0, 7, rfl, by decide, wf_0, rfl, (Or.inr ⟨_, q_275⟩)⟩, by decide, by decide⟩
theorem f_RX9_217 : FG RX9 217 6 6 ∧ fty 6 6 = 2 ∧ 6 < nfs 6 := ⟨⟨RX6, TX6, 8, rfl, by decide, wf_6, rfl, (Or.inr ⟨_, q_205⟩)⟩, by decide, by decide⟩
theorem f_RX9_223 : FG RX9 223 6 7 ∧ fty 6 7 = 2 ∧ 7 < nfs 6 := ⟨⟨RX6, TX6, 8, rfl, by decide, wf_6, rfl, (Or.inr ⟨_, q_209⟩)⟩, by decide, by decide⟩
theorem f_RX9_226 : FG RX9 226 0 0 ∧ fty 0 0 = 0 ∧ 0 < nfs 0 := ⟨⟨RX0, TX0, 7, rfl, by decide, wf_0, rfl, (Or.inr ⟨_, q_272⟩)⟩, by decide, by decide⟩
theorem f_RX9_227 : FG RX9 227 0 3 ∧ fty 0 3 = 2 ∧ 3 < nfs 0 := ⟨⟨RX0, TX0, 7, rfl, by decide, wf_0, rfl, (Or.inr ⟨_, q_277⟩)⟩, by decide, by decide⟩
theorem f_RX9_230 : FG RX9 230 0 4 ∧ fty 0 4 = 2 ∧ 4 < nfs 0 := ⟨⟨RX0, TX0, 7, rfl, by decide, wf_0, rfl, (Or.inr ⟨_, q_279⟩)⟩, by decide, by decide⟩
theorem f_RX9_232 : FG RX9 232 0 5 ∧ fty 0 5 = 2 ∧ 5 < nfs 0 := ⟨⟨RX0, TX0, 7, rfl, by decide, wf_0, rfl, (Or.inr ⟨_, q_281⟩)⟩, by decide, by decide⟩
theorem f_RX9_235 : FG RX9 235 0 6 ∧ fty 0 6 = 2 ∧ 6 < nfs 0 := ⟨⟨RX0, TX0, 7, rfl, by decide, wf_0, rfl, (Or.inr ⟨_, q_283⟩)⟩, by decide, by decide⟩
theorem f_RX9_25 : FG RX9 25 9 3 ∧ fty 9 3 = 2 ∧ 3 < nfs 9 := ⟨⟨RX9, TX9, 16, rfl, by decide, wf_9, rfl, (Or.inl q_344)⟩, by decide, by decide⟩
theorem f_RX9_259 : FG RX9 259 4 1 ∧ fty 4 1 = 0 ∧ 1 < nfs 4 := ⟨⟨RX4, TX4, 11, rfl, by decide, wf_4, rfl, (Or.inr ⟨_, q_113⟩)⟩, by decide, by decide⟩
theorem f_RX9_262 : FG RX9 262 4 2 ∧ fty 4 2 = 0 ∧ 2 < nfs 4 := ⟨⟨RX4, TX4, 11, rfl, by decide, wf_4, rfl, (Or.inr ⟨_, q_115⟩)⟩, by decide, by decide⟩
theorem f_RX9_265 : FG RX9 265 1 0 ∧ fty 1 0 = 0 ∧ 0 < nfs 1 := ⟨⟨RX1, TX1, 5, rfl, by decide, wf_1, rfl, (Or.inr ⟨_, q_306⟩)⟩, by decide, by decide⟩
theorem f_RX9_266 : FG RX9 266 4 9 ∧ fty 4 9 = 2 ∧ 9 < nfs 4 := ⟨⟨RX4, TX4, 11, rfl, by decide, wf_4, rfl, (Or.inr ⟨_, q_131⟩)⟩, by decide, by decide⟩
theorem f_RX9_288 : FG RX9 288 5 1 ∧ fty 5 1 = 2 ∧ 1 < nfs 5 := ⟨⟨RX5, TX5, 3, rfl, by decide, wf_5, rfl, (Or.inr ⟨_, q_331⟩)⟩, by decide, by decide⟩
theorem f_RX9_29 : FG RX9 29 9 4 ∧ fty 9 4 = 2 ∧ 4 < nfs 9 := ⟨⟨RX9, TX9, 16, rfl, by decide, wf_9, rfl, (Or.inl q_345)⟩, by decide, by decide⟩
theorem f_RX9_312 : FG RX9 312 9 12 ∧ fty 9 12 = 0 ∧ 12 < nfs 9 := ⟨⟨RX9, TX9, 16, rfl, by decide, wf_9, rfl, (Or.inl q_353)⟩, by decide, by decide⟩
theorem f_RX9_319 : FG RX9 319 5 0 ∧ fty 5 0 = 2 ∧ 0 < nfs 5 := ⟨⟨RX5, TX5, 3, rfl, by decide, wf_5, rfl, (Or.inr ⟨_, q_329⟩)⟩, by decide, by decide⟩
theorem f_RX9_325 : FG RX9 325 5 2 ∧ fty 5 2 = 2 ∧ 2 < nfs 5 := ⟨⟨RX5, TX5, 3, rfl, by decide, wf_5, rfl, (Or.inr ⟨_, q_333⟩)⟩, by decide, by decide⟩
theorem f_RX9_340 : FG RX9 340 9 13 ∧ fty 9 13 = 0 ∧ 13 < nfs 9 := ⟨⟨RX9, TX9, 16, rfl, by decide, wf_9, rfl, (Or.inl q_354)⟩, by decide, by decide⟩
theorem f_RX9_343 : FG RX9 343 9 14 ∧ fty 9 14 = 0 ∧ 14 < nfs 9 := ⟨⟨RX9, TX9, 16, rfl, by decide, wf_9, rfl, (Or.inl q_355)⟩, by decide, by decide⟩
theorem f_RX9_346 : FG RX9 346 9 15 ∧ fty 9 15 = 0 ∧ 15 < nfs 9 := ⟨⟨RX9, TX9, 16, rfl, by decide, wf_9, rfl, (Or.inl q_356)⟩, by decide, by decide⟩
theorem f_RX9_35 : FG RX9 35 9 5 ∧ fty 9 5 = 2 ∧ 5 < nfs 9 := ⟨⟨RX9, TX9, 16, rfl, by decide, wf_9, rfl, (Or.inl q_346)⟩, by decide, by decide⟩
theorem f_RX9_42 : FG RX9 42 9 6 ∧ fty 9 6 = 2 ∧ 6 < nfs 9 := ⟨⟨RX9, TX9, 16, rfl, by decide, wf_9, rfl, (Or.inl q_347)⟩, by decide, by decide⟩
theorem f_RX9_49 : FG RX9 49 9 7 ∧ fty 9 7 = 2 ∧ 7 < nfs 9 := ⟨⟨RX9, TX9, 16, rfl, by decide, wf_9, rfl, (Or.inl q_348)⟩, by decide, by decide⟩
theorem f_RX9_56 : FG RX9 56 9 8 ∧ fty 9 8 = 2 ∧ 8 < nfs 9 := ⟨⟨RX9, TX9, 16, rfl, by decide, wf_9, rfl, (Or.inl q_349)⟩, by decide, by decide⟩
theorem f_RX9_63 : FG RX9 63 9 9 ∧ fty 9 9 = 2 ∧ 9 < nfs 9 := ⟨⟨RX9, TX9, 16, rfl, by decide, wf_9, rfl, (Or.inl q_350)⟩, by decide, by decide⟩
theorem f_RX9_70 : FG RX9 70 9 10 ∧ fty 9 10 = 2 ∧ 10 < nfs 9 := ⟨⟨RX9, TX9, 16, rfl, by decide, wf_9, rfl, (Or.inl q_351)⟩, by decide, by decide⟩
theorem f_RX9_77 : FG RX9 77 9 11 ∧ fty 9 11 = 2 ∧ 11 < nfs 9 := ⟨⟨RX9, TX9, 16, rfl, by decide, wf_9, rfl, (Or.inl q_352)⟩, by decide, by decide⟩
theorem fp_RX0_79 : FP RX0 79 0 0 .int ∧ fty 0 0 = 0 ∧ 0 < nfs 0 := ⟨⟨RX0, TX0, 7, tyX0, rfl, by decide, wf_0, rfl, (Or.inl q_271), tyX0_ok, nmX0, rfl, by decide +kernel⟩, by decide, by decide⟩
theorem fp_RX10_109 : FP RX10 109 10 0 .int ∧ fty 10 0 = 0 ∧ 0 < nfs 10 := ⟨⟨RX10, TX10, 48, tyX10, rfl, by decide, wf_10, rfl, (Or.inl q_886), tyX10_ok, nmX10, rfl, by decide +kernel⟩, by decide, by decide⟩
theorem fp_RX10_140 : FP RX10 140 10 5 .int ∧ fty 10 5 = 0 ∧ 5 < nfs 10 := ⟨⟨RX10, TX10, 48, tyX10, rfl, by decide, wf_10, rfl, (Or.inl q_891), tyX10_ok, nmX10, rfl, by decide +kernel⟩, by decide, by decide⟩
theorem fp_RX10_143 : FP RX10 143 10 6 .long ∧ fty 10 6 = 1 ∧ 6 < nfs 10 := ⟨⟨RX10, TX10, 48, tyX10, rfl, by decide, wf_10, rfl, (Or.inl q_892), tyX10_ok, nmX10, rfl, by decide +kernel⟩, by decide, by decide⟩
theorem fp_RX10_147 : FP RX10 147 10 7 .long ∧ fty 10 7 = 1 ∧ 7 < nfs 10 := ⟨⟨RX10, TX10, 48, tyX10, rfl, by decide, wf_10, rfl, (Or.inl q_893), tyX10_ok, nmX10, rfl, by decide +kernel⟩, by decide, by decide⟩
theorem fp_RX10_150 : FP RX10 150 10 8 .long ∧ fty 10 8 = 1 ∧ 8 < nfs 10 := ⟨⟨RX10, TX10, 48, tyX10, rfl, by decide, wf_10, rfl, (Or.inl q_894), tyX10_ok, nmX10, rfl, by decide +kernel⟩, by decide, by decide⟩
theorem fp_RX10_176 : FP RX10 176 10 9 .int ∧ fty 10 9 = 0 ∧ 9 < nfs 10 := ⟨⟨RX10, TX10, 48, tyX10, rfl, by decide, wf_10, rfl, (Or.inl q_895), tyX10_ok, nmX10, rfl, by decide +kernel⟩, by decide, by decide⟩
theorem fp_RX10_221 : FP RX10 221 10 15 .int ∧ fty 10 15 = 0 ∧ 15 < nfs 10 := ⟨⟨RX10, TX10, 48, tyX10, rfl, by decide, wf_10, rfl, (Or.inl q_901), tyX10_ok, nmX10, rfl, by decide +kernel⟩, by decide, by decide⟩
theorem fp_RX10_247 : FP RX10 247 10 20 .int ∧ fty 10 20 = 0 ∧ 20 < nfs 10 := ⟨⟨RX10, TX10, 48, tyX10, rfl, by decide, wf_10, rfl, (Or.inl q_906), tyX10_ok, nmX10, rfl, by decide +kernel⟩, by decide, by decide⟩
theorem fp_RX10_267 : FP RX10 267 10 23 .int ∧ fty 10 23 = 0 ∧ 23 < nfs 10 := ⟨⟨RX10, TX10, 48, tyX10, rfl, by decide, wf_10, rfl, (Or.inl q_909), tyX10_ok, nmX10, rfl, by decide +kernel⟩, by decide, by decide⟩
theorem fp_RX10_278 : FP RX10 278 10 22 .int ∧ fty 10 22 = 0 ∧ 22 < nfs 10 := ⟨⟨RX10, TX10, 48, tyX10, rfl, by decide, wf_10, rfl, (Or.inl q_908), tyX10_ok, nmX10, rfl, by decide +kernel⟩, by decide, by decide⟩
theorem fp_RX10_290 : FP RX10 290 10 33 .long ∧ fty 10 33 = 1 ∧ 33 < nfs 10 := ⟨⟨RX10, TX10, 48, tyX10, rfl, by decide, wf_10, rfl, (Or.inl q_919), tyX10_ok, nmX10, rfl, by decide +kernel⟩, by decide, by decide⟩
theorem fp_RX10_293 : FP RX10 293 10 34 .long ∧ fty 10 34 = 1 ∧ 34 < nfs 10 := ⟨⟨RX10, TX10, 48, tyX10, rfl, by decide, wf_10, rfl, (Or.inl q_920), tyX10_ok, nmX10, rfl, by decide +kernel⟩, by decide, by decide⟩
theorem fp_RX10_296 : FP RX10 296 10 35 .long ∧ fty 10 35 = 1 ∧ 35 < nfs 10 := ⟨⟨RX10, TX10, 48, tyX10, rfl, by decide, wf_10, rfl, (Or.inl q_921), tyX10_ok, nmX10, rfl, by decide +kernel⟩, by decide, by decide⟩
theorem fp_RX10_299 : FP RX10 299 10 36 .long ∧ fty 10 36 = 1 ∧ 36 < nfs 10 := ⟨⟨RX10, TX10, 48, tyX10, rfl, by decide, wf_10, rfl, (Or.inl q_922), tyX10_ok, nmX10, rfl, by decide +kernel⟩, by decide, by decide⟩
theorem fp_RX10_324 : FP RX10 324 10 24 .int ∧ fty 10 24 = 0 ∧ 24 < nfs 10 := ⟨⟨RX10, TX10, 48, tyX10, rfl, by decide, wf_10, rfl, (Or.inl q_910), tyX10_ok, nmX10, rfl, by decide +kernel⟩, by decide, by decide⟩
theorem fp_RX10_379 : FP RX10 379 10 42 .int ∧ fty 10 42 = 0 ∧ 42 < nfs 10 := ⟨⟨RX10, TX10, 48, tyX10, rfl, by decide, wf_10, rfl, (Or.inl q_928), tyX10_ok, nmX10, rfl, by decide +kernel⟩, by decide, by decide⟩
theorem fp_RX10_398 : FP RX10 398 10 43 .boolean ∧ fty 10 43 = 0 ∧ 43 < nfs 10 := ⟨⟨RX10, TX10, 48, tyX10, rfl, by decide, wf_10, rfl, (Or.inl q_929), tyX10_ok, nmX10, rfl, by decide +kernel⟩, by decide, by decide⟩
theorem fp_RX1_21 : FP RX1 21 1 1 .int ∧ fty 1 1 = 0 ∧ 1 < nfs 1 := ⟨⟨RX1, TX1, 5, tyX1, rfl, by decide, wf_1, rfl, (Or.inl q_307), tyX1_ok, nmX1, rfl, by decide +kernel⟩, by decide, by decide⟩
theorem fp_RX1_46 : FP RX1 46 1 0 .int ∧ fty 1 0 = 0 ∧ 0 < nfs 1 := ⟨⟨RX1, TX1, 5, tyX1, rfl, by decide, wf_1, rfl, (Or.inl q_305), tyX1_ok, nmX1, rfl, by decide +kernel⟩, by decide, by decide⟩
theorem fp_RX2_24 : FP RX2 24 2 0 .int ∧ fty 2 0 = 0 ∧ 0 < nfs 2 := ⟨⟨RX2, TX2, 5, tyX2, rfl, by decide, wf_2, rfl, (Or.inl q_30), tyX2_ok, nmX2, rfl, by decide +kernel⟩, by decide, by decide⟩
theorem fp_RX3_49 : FP RX3 49 3 1 .long ∧ fty 3 1 = 1 ∧ 1 < nfs 3 := ⟨⟨RX3, TX3, 5, tyX3, rfl, by decide, wf_3, rfl, (Or.inl q_86), tyX3_ok, nmX3, rfl, by decide +kernel⟩, by decide, by decide⟩
theorem fp_RX3_53 : FP RX3 53 3 2 .long ∧ fty 3 2 = 1 ∧ 2 < nfs 3 := ⟨⟨RX3, TX3, 5, tyX3, rfl, by decide, wf_3, rfl, (Or.inl q_89), tyX3_ok, nmX3, rfl, by decide +kernel⟩, by decide, by decide⟩
theorem fp_RX3_56 : FP RX3 56 3 3 .long ∧ fty 3 3 = 1 ∧ 3 < nfs 3 := ⟨⟨RX3, TX3, 5, tyX3, rfl, by decide, wf_3, rfl, (Or.inl q_92), tyX3_ok, nmX3, rfl, by decide +kernel⟩, by decide, by decide⟩
theorem fp_RX3_59 : FP RX3 59 3 4 .long ∧ fty 3 4 = 1 ∧ 4 < nfs 3 := ⟨⟨RX3, TX3, 5, tyX3, rfl, by decide, wf_3, rfl, (Or.inl q_95), tyX3_ok, nmX3, rfl, by decide +kernel⟩, by decide, by decide⟩
theorem fp_RX3_9 : FP RX3 9 3 0 .int ∧ fty 3 0 = 0 ∧ 0 < nfs 3 := ⟨⟨RX3, TX3, 5, tyX3, rfl, by decide, wf_3, rfl, (Or.inl q_82), tyX3_ok, nmX3, rfl, by decide +kernel⟩, by decide, by decide⟩
theorem fp_RX4_130 : FP RX4 130 4 2 .int ∧ fty 4 2 = 0 ∧ 2 < nfs 4 := ⟨⟨RX4, TX4, 11, tyX4, rfl, by decide, wf_4, rfl, (Or.inl q_114), tyX4_ok, nmX4, rfl, by decide +kernel⟩, by decide, by decide⟩
theorem fp_RX4_41 : FP RX4 41 4 0 .int ∧ fty 4 0 = 0 ∧ 0 < nfs 4 := ⟨⟨RX4, TX4, 11, tyX4, rfl, by decide, wf_4, rfl, (Or.inl q_109), tyX4_ok, nmX4, rfl, by decide +kernel⟩, by decide, by decide⟩
theorem fp_RX4_72 : FP RX4 72 4 1 .int ∧ fty 4 1 = 0 ∧ 1 < nfs 4 := ⟨⟨RX4, TX4, 11, tyX4, rfl, by decide, wf_4, rfl, (Or.inl q_112), tyX4_ok, nmX4, rfl, by decide +kernel⟩, by decide, by decide⟩
theorem fp_RX6_35 : FP RX6 35 6 1 .int ∧ fty 6 1 = 0 ∧ 1 < nfs 6 := ⟨⟨RX6, TX6, 8, tyX6, rfl, by decide, wf_6, rfl, (Or.inl q_190), tyX6_ok, nmX6, rfl, by decide +kernel⟩, by decide, by decide⟩
theorem fp_RX6_39 : FP RX6 39 6 0 .int ∧ fty 6 0 = 0 ∧ 0 < nfs 6 := ⟨⟨RX6, TX6, 8, tyX6, rfl, by decide, wf_6, rfl, (Or.inl q_187), tyX6_ok, nmX6, rfl, by decide +kernel⟩, by decide, by decide⟩
theorem fp_RX7_19 : FP RX7 19 7 0 .int ∧ fty 7 0 = 0 ∧ 0 < nfs 7 := ⟨⟨RX7, TX7, 3, tyX7, rfl, by decide, wf_7, rfl, (Or.inl q_164), tyX7_ok, nmX7, rfl, by decide +kernel⟩, by decide, by decide⟩
theorem fp_RX8_34 : FP RX8 34 8 0 .int ∧ fty 8 0 = 0 ∧ 0 < nfs 8 := ⟨⟨RX8, TX8, 9, tyX8, rfl, by decide, wf_8, rfl, (Or.inl q_233), tyX8_ok, nmX8, rfl, by decide +kernel⟩, by decide, by decide⟩
theorem fp_RX8_56 : FP RX8 56 8 4 .int ∧ fty 8 4 = 0 ∧ 4 < nfs 8 := ⟨⟨RX8, TX8, 9, tyX8, rfl, by decide, wf_8, rfl, (Or.inl q_241), tyX8_ok, nmX8, rfl, by decide +kernel⟩, by decide, by decide⟩
theorem fp_RX9_312 : FP RX9 312 9 12 .boolean ∧ fty 9 12 = 0 ∧ 12 < nfs 9 := ⟨⟨RX9, TX9, 16, tyX9, rfl, by decide, wf_9, rfl, (Or.inl q_353), tyX9_ok, nmX9, rfl, by decide +kernel⟩, by decide, by decide⟩
theorem fp_RX9_340 : FP RX9 340 9 13 .boolean ∧ fty 9 13 = 0 ∧ 13 < nfs 9 := ⟨⟨RX9, TX9, 16, tyX9, rfl, by decide, wf_9, rfl, (Or.inl q_354), tyX9_ok, nmX9, rfl, by decide +kernel⟩, by decide, by decide⟩
theorem fp_RX9_343 : FP RX9 343 9 14 .boolean ∧ fty 9 14 = 0 ∧ 14 < nfs 9 := ⟨⟨RX9, TX9, 16, tyX9, rfl, by decide, wf_9, rfl, (Or.inl q_355), tyX9_ok, nmX9, rfl, by decide +kernel⟩, by decide, by decide⟩
theorem fp_RX9_346 : FP RX9 346 9 15 .boolean ∧ fty 9 15 = 0 ∧ 15 < nfs 9 := ⟨⟨RX9, TX9, 16, tyX9, rfl, by decide, wf_9, rfl, (Or.inl q_356), tyX9_ok, nmX9, rfl, by decide +kernel⟩, by decide, by decide⟩
theorem M_X10_isSheet : MS mX10_isSheet 1 := ⟨q_1352, q_11, ⟨by decide +kernel, by decide +kernel⟩, by decide +kernel, q_1351, by decide⟩
theorem M_X10_in : MS mX10_in 3 := ⟨q_1041, q_11, ⟨by decide +kernel, by decide +kernel⟩, by decide +kernel, q_1040, by decide⟩
theorem M_X10_line : MV mX10_line 4 := ⟨q_1035, q_11, ⟨by decide +kernel, by decide +kernel⟩, by decide +kernel, q_1033, q_1034, by decide⟩
theorem M_X10_isOnSheet : MS mX10_isOnSheet 1 := ⟨q_1038, q_11, ⟨by decide +kernel, by decide +kernel⟩, by decide +kernel, q_1037, by decide⟩
theorem M_X10_stands : MV mX10_stands 5 := ⟨q_1045, q_11, ⟨by decide +kernel, by decide +kernel⟩, by decide +kernel, q_1044, sl_40, by decide⟩
theorem M_X5_isOne : MV mX5_isOne 1 := ⟨q_806, q_10, ⟨by decide +kernel, by decide +kernel⟩, by decide +kernel, q_804, q_805, by decide⟩
theorem M_X5_isSort : MV mX5_isSort 1 := ⟨q_854, q_10, ⟨by decide +kernel, by decide +kernel⟩, by decide +kernel, q_852, q_853, by decide⟩
theorem M_X5_isMissing : MV mX5_isMissing 1 := ⟨q_810, q_10, ⟨by decide +kernel, by decide +kernel⟩, by decide +kernel, q_808, q_809, by decide⟩
theorem M_X5_hasRow : MV mX5_hasRow 3 := ⟨q_866, q_10, ⟨by decide +kernel, by decide +kernel⟩, by decide +kernel, q_864, q_865, by decide⟩
theorem M_X5_item : MV mX5_item 2 := ⟨q_818, q_10, ⟨by decide +kernel, by decide +kernel⟩, by decide +kernel, q_816, q_817, by decide⟩
theorem M_X9_line : MV mX9_line 4 := ⟨q_393, q_1, ⟨by decide +kernel, by decide +kernel⟩, by decide +kernel, q_391, q_392, by decide⟩
theorem M_X9_canBeEnds : MS mX9_canBeEnds 4 := ⟨q_396, q_1, ⟨by decide +kernel, by decide +kernel⟩, by decide +kernel, q_395, by decide⟩
theorem M_X2_isFull : MV mX2_isFull 0 := ⟨q_403, q_2, ⟨by decide +kernel, by decide +kernel⟩, by decide +kernel, q_401, q_402, by decide⟩
theorem M_X9_forgetWhatFollows : MV mX9_forgetWhatFollows 0 := ⟨q_407, q_1, ⟨by decide +kernel, by decide +kernel⟩, by decide +kernel, q_406, sl_0, by decide⟩
theorem M_X2_add : MV mX2_add 4 := ⟨q_411, q_2, ⟨by decide +kernel, by decide +kernel⟩, by decide +kernel, q_409, q_410, by decide⟩
theorem M_X2_lay : MV mX2_lay 5 := ⟨q_416, q_2, ⟨by decide +kernel, by decide +kernel⟩, by decide +kernel, q_414, q_415, by decide⟩
theorem M_X2_has : MV mX2_has 1 := ⟨q_420, q_2, ⟨by decide +kernel, by decide +kernel⟩, by decide +kernel, q_418, q_419, by decide⟩
theorem M_X9_isCoordinate : MS mX9_isCoordinate 1 := ⟨q_399, q_1, ⟨by decide +kernel, by decide +kernel⟩, by decide +kernel, q_398, by decide⟩
theorem M_X5_set : MV mX5_set 3 := ⟨q_838, q_10, ⟨by decide +kernel, by decide +kernel⟩, by decide +kernel, q_836, q_837, by decide⟩
theorem M_X5_make : MV mX5_make 3 := ⟨q_834, q_10, ⟨by decide +kernel, by decide +kernel⟩, by decide +kernel, q_832, q_833, by decide⟩
theorem M_X10_layBack : MV mX10_layBack 1 := ⟨q_1323, q_11, ⟨by decide +kernel, by decide +kernel⟩, by decide +kernel, q_1322, sl_87, by decide⟩
theorem M_X10_endRow : MV mX10_endRow 1 := ⟨q_1314, q_11, ⟨by decide +kernel, by decide +kernel⟩, by decide +kernel, q_1313, sl_85, by decide⟩
theorem M_X2_become : MV mX2_become 1 := ⟨q_770, q_2, ⟨by decide +kernel, by decide +kernel⟩, by decide +kernel, q_768, q_769, by decide⟩
theorem M_X10_keep : MV mX10_keep 1 := ⟨q_1310, q_11, ⟨by decide +kernel, by decide +kernel⟩, by decide +kernel, q_1309, sl_84, by decide⟩
theorem M_X10_tellOrder : MV mX10_tellOrder 3 := ⟨q_1170, q_11, ⟨by decide +kernel, by decide +kernel⟩, by decide +kernel, q_1169, sl_60, by decide⟩
theorem M_X10_isThere : MV mX10_isThere 3 := ⟨q_1174, q_11, ⟨by decide +kernel, by decide +kernel⟩, by decide +kernel, q_1173, sl_61, by decide⟩
theorem M_X10_isAhead : MV mX10_isAhead 4 := ⟨q_1178, q_11, ⟨by decide +kernel, by decide +kernel⟩, by decide +kernel, q_1177, sl_62, by decide⟩
theorem M_X10_yAbove : MV mX10_yAbove 3 := ⟨q_1182, q_11, ⟨by decide +kernel, by decide +kernel⟩, by decide +kernel, q_1181, sl_63, by decide⟩
theorem M_X10_yBelow : MV mX10_yBelow 2 := ⟨q_1186, q_11, ⟨by decide +kernel, by decide +kernel⟩, by decide +kernel, q_1185, sl_64, by decide⟩
theorem M_X10_against : MS mX10_against 4 := ⟨q_1108, q_11, ⟨by decide +kernel, by decide +kernel⟩, by decide +kernel, q_1107, by decide⟩
theorem M_X10_isUpright : MV mX10_isUpright 1 := ⟨q_1142, q_11, ⟨by decide +kernel, by decide +kernel⟩, by decide +kernel, q_1141, sl_55, by decide⟩
theorem M_X7_stand : MV mX7_stand 3 := ⟨q_599, q_5, ⟨by decide +kernel, by decide +kernel⟩, by decide +kernel, q_597, q_598, by decide⟩
theorem M_X2_isUpright : MV mX2_isUpright 1 := ⟨q_442, q_2, ⟨by decide +kernel, by decide +kernel⟩, by decide +kernel, q_440, q_441, by decide⟩
theorem M_X2_reaches : MV mX2_reaches 3 := ⟨q_503, q_2, ⟨by decide +kernel, by decide +kernel⟩, by decide +kernel, q_501, q_502, by decide⟩
theorem M_X2_height : MV mX2_height 3 := ⟨q_605, q_2, ⟨by decide +kernel, by decide +kernel⟩, by decide +kernel, q_603, q_604, by decide⟩
theorem M_X7_let : MV mX7_let 2 := ⟨q_609, q_5, ⟨by decide +kernel, by decide +kernel⟩, by decide +kernel, q_608, sl_18, by decide⟩
theorem M_X7_compareTwo : MV mX7_compareTwo 3 := ⟨q_613, q_5, ⟨by decide +kernel, by decide +kernel⟩, by decide +kernel, q_611, q_612, by decide⟩
theorem M_X2_run : MV mX2_run 1 := ⟨q_473, q_2, ⟨by decide +kernel, by decide +kernel⟩, by decide +kernel, q_471, q_472, by decide⟩
theorem M_X9_compareFractions : MS mX9_compareFractions 4 := ⟨q_461, q_1, ⟨by decide +kernel, by decide +kernel⟩, by decide +kernel, q_460, by decide⟩
theorem M_X2_rise : MV mX2_rise 1 := ⟨q_477, q_2, ⟨by decide +kernel, by decide +kernel⟩, by decide +kernel, q_475, q_476, by decide⟩
theorem M_X10_otherwise : MV mX10_otherwise 3 := ⟨q_1356, q_11, ⟨by decide +kernel, by decide +kernel⟩, by decide +kernel, q_1355, sl_90, by decide⟩
theorem M_X5_firstOtherwise : MV mX5_firstOtherwise 3 := ⟨q_814, q_10, ⟨by decide +kernel, by decide +kernel⟩, by decide +kernel, q_812, q_813, by decide⟩
theorem M_X9_toldXs : MV mX9_toldXs 2 := ⟨q_822, q_1, ⟨by decide +kernel, by decide +kernel⟩, by decide +kernel, q_821, sl_38, by decide⟩
theorem M_X9_toldWithout : MV mX9_toldWithout 2 := ⟨q_826, q_1, ⟨by decide +kernel, by decide +kernel⟩, by decide +kernel, q_825, sl_39, by decide⟩
theorem M_X10_lowest : MS mX10_lowest 3 := ⟨q_1083, q_11, ⟨by decide +kernel, by decide +kernel⟩, by decide +kernel, q_1082, by decide⟩
theorem M_X10_byLot : MV mX10_byLot 2 := ⟨q_1335, q_11, ⟨by decide +kernel, by decide +kernel⟩, by decide +kernel, q_1334, sl_88, by decide⟩
theorem M_X10_facesNow : MV mX10_facesNow 0 := ⟨q_1319, q_11, ⟨by decide +kernel, by decide +kernel⟩, by decide +kernel, q_1318, sl_86, by decide⟩
theorem M_X10_draw : MV mX10_draw 0 := ⟨q_1339, q_11, ⟨by decide +kernel, by decide +kernel⟩, by decide +kernel, q_1338, sl_89, by decide⟩
theorem M_X10_tellSheet : MV mX10_tellSheet 0 := ⟨q_1194, q_11, ⟨by decide +kernel, by decide +kernel⟩, by decide +kernel, q_1193, sl_65, by decide⟩
theorem M_X10_tellPoints : MV mX10_tellPoints 0 := ⟨q_1097, q_11, ⟨by decide +kernel, by decide +kernel⟩, by decide +kernel, q_1096, sl_46, by decide⟩
theorem M_X10_joinCells : MV mX10_joinCells 0 := ⟨q_1210, q_11, ⟨by decide +kernel, by decide +kernel⟩, by decide +kernel, q_1209, sl_69, by decide⟩
theorem M_X10_addCell : MV mX10_addCell 3 := ⟨q_1198, q_11, ⟨by decide +kernel, by decide +kernel⟩, by decide +kernel, q_1197, sl_66, by decide⟩
theorem M_X10_cut : MV mX10_cut 1 := ⟨q_1202, q_11, ⟨by decide +kernel, by decide +kernel⟩, by decide +kernel, q_1201, sl_67, by decide⟩
theorem M_X10_againstThrough : MV mX10_againstThrough 3 := ⟨q_1206, q_11, ⟨by decide +kernel, by decide +kernel⟩, by decide +kernel, q_1205, sl_68, by decide⟩
theorem M_X10_wide : MV mX10_wide 0 := ⟨q_1214, q_11, ⟨by decide +kernel, by decide +kernel⟩, by decide +kernel, q_1213, sl_70, by decide⟩
theorem M_X10_narrow : MV mX10_narrow 3 := ⟨q_1220, q_11, ⟨by decide +kernel, by decide +kernel⟩, by decide +kernel, q_1219, sl_71, by decide⟩
theorem M_X10_isMoreThanOne : MV mX10_isMoreThanOne 0 := ⟨q_1231, q_11, ⟨by decide +kernel, by decide +kernel⟩, by decide +kernel, q_1230, sl_72, by decide⟩
theorem M_X10_isOpen : MV mX10_isOpen 2 := ⟨q_1235, q_11, ⟨by decide +kernel, by decide +kernel⟩, by decide +kernel, q_1234, sl_73, by decide⟩
theorem M_X10_isUprightAt : MV mX10_isUprightAt 3 := ⟨q_1239, q_11, ⟨by decide +kernel, by decide +kernel⟩, by decide +kernel, q_1238, sl_74, by decide⟩
theorem M_X10_leastOf : MS mX10_leastOf 1 := ⟨q_1223, q_11, ⟨by decide +kernel, by decide +kernel⟩, by decide +kernel, q_1222, by decide⟩
theorem M_J6_numberOfTrailingZeros_0f7a4 : MS mJ6_numberOfTrailingZeros_0f7a4 1 := ⟨q_1226, q_13, ⟨by decide +kernel, by decide +kernel⟩, by decide +kernel, q_1225, by decide⟩
theorem M_X10_addPoint : MV mX10_addPoint 3 := ⟨q_1101, q_11, ⟨by decide +kernel, by decide +kernel⟩, by decide +kernel, q_1100, sl_47, by decide⟩
theorem M_X10_meet : MV mX10_meet 2 := ⟨q_1069, q_11, ⟨by decide +kernel, by decide +kernel⟩, by decide +kernel, q_1068, sl_43, by decide⟩
theorem M_X10_pointAgainst : MV mX10_pointAgainst 5 := ⟨q_1105, q_11, ⟨by decide +kernel, by decide +kernel⟩, by decide +kernel, q_1104, sl_48, by decide⟩
theorem M_X10_size : MS mX10_size 1 := ⟨q_1086, q_11, ⟨by decide +kernel, by decide +kernel⟩, by decide +kernel, q_1085, by decide⟩
theorem M_X10_common : MS mX10_common 2 := ⟨q_1089, q_11, ⟨by decide +kernel, by decide +kernel⟩, by decide +kernel, q_1088, by decide⟩
theorem M_X10_turn : MV mX10_turn 4 := ⟨q_1073, q_11, ⟨by decide +kernel, by decide +kernel⟩, by decide +kernel, q_1072, sl_44, by decide⟩
theorem M_X10_meetInRow : MV mX10_meetInRow 2 := ⟨q_1077, q_11, ⟨by decide +kernel, by decide +kernel⟩, by decide +kernel, q_1076, sl_45, by decide⟩
theorem M_X10_isLess : MS mX10_isLess 4 := ⟨q_1080, q_11, ⟨by decide +kernel, by decide +kernel⟩, by decide +kernel, q_1079, by decide⟩
theorem M_X9_commonDivisor : MS mX9_commonDivisor 2 := ⟨q_491, q_1, ⟨by decide +kernel, by decide +kernel⟩, by decide +kernel, q_490, by decide⟩
theorem M_X9_facesDrawn : MV mX9_facesDrawn 2 := ⟨q_786, q_1, ⟨by decide +kernel, by decide +kernel⟩, by decide +kernel, q_785, sl_37, by decide⟩
theorem M_X4_find : MV mX4_find 1 := ⟨q_450, q_3, ⟨by decide +kernel, by decide +kernel⟩, by decide +kernel, q_448, q_449, by decide⟩
theorem M_X4_facesAround : MV mX4_facesAround 0 := ⟨q_774, q_3, ⟨by decide +kernel, by decide +kernel⟩, by decide +kernel, q_772, q_773, by decide⟩
theorem M_X9_anew : MS mX9_anew 1 := ⟨q_789, q_1, ⟨by decide +kernel, by decide +kernel⟩, by decide +kernel, q_788, by decide⟩
theorem M_X9_coordinateBy : MS mX9_coordinateBy 1 := ⟨q_793, q_1, ⟨by decide +kernel, by decide +kernel⟩, by decide +kernel, q_792, by decide⟩
theorem M_X4_addMeetings : MV mX4_addMeetings 1 := ⟨q_465, q_3, ⟨by decide +kernel, by decide +kernel⟩, by decide +kernel, q_464, sl_4, by decide⟩
theorem M_X4_countParts : MV mX4_countParts 0 := ⟨q_532, q_3, ⟨by decide +kernel, by decide +kernel⟩, by decide +kernel, q_531, sl_11, by decide⟩
theorem M_X4_walkAlong : MV mX4_walkAlong 1 := ⟨q_515, q_3, ⟨by decide +kernel, by decide +kernel⟩, by decide +kernel, q_514, sl_8, by decide⟩
theorem M_X4_linesThrough : MV mX4_linesThrough 2 := ⟨q_495, q_3, ⟨by decide +kernel, by decide +kernel⟩, by decide +kernel, q_494, sl_7, by decide⟩
theorem M_X4_add : MV mX4_add 4 := ⟨q_454, q_3, ⟨by decide +kernel, by decide +kernel⟩, by decide +kernel, q_453, sl_2, by decide⟩
theorem M_X4_compareTo : MV mX4_compareTo 5 := ⟨q_458, q_3, ⟨by decide +kernel, by decide +kernel⟩, by decide +kernel, q_457, sl_3, by decide⟩
theorem M_X2_holds : MV mX2_holds 5 := ⟨q_499, q_2, ⟨by decide +kernel, by decide +kernel⟩, by decide +kernel, q_497, q_498, by decide⟩
theorem M_X9_leastOf : MS mX9_leastOf 1 := ⟨q_518, q_1, ⟨by decide +kernel, by decide +kernel⟩, by decide +kernel, q_517, by decide⟩
theorem M_X4_unite : MV mX4_unite 2 := ⟨q_522, q_3, ⟨by decide +kernel, by decide +kernel⟩, by decide +kernel, q_521, sl_9, by decide⟩
theorem M_X4_rootOf : MV mX4_rootOf 1 := ⟨q_526, q_3, ⟨by decide +kernel, by decide +kernel⟩, by decide +kernel, q_525, sl_10, by decide⟩
theorem M_X3_find : MV mX3_find 3 := ⟨q_469, q_4, ⟨by decide +kernel, by decide +kernel⟩, by decide +kernel, q_467, q_468, by decide⟩
theorem M_X3_layAt : MV mX3_layAt 3 := ⟨q_488, q_4, ⟨by decide +kernel, by decide +kernel⟩, by decide +kernel, q_487, sl_6, by decide⟩
theorem M_X3_findInOneRow : MV mX3_findInOneRow 3 := ⟨q_481, q_4, ⟨by decide +kernel, by decide +kernel⟩, by decide +kernel, q_480, sl_5, by decide⟩
theorem M_X3_isAhead : MS mX3_isAhead 4 := ⟨q_484, q_4, ⟨by decide +kernel, by decide +kernel⟩, by decide +kernel, q_483, by decide⟩
theorem M_X10_facesWithout : MV mX10_facesWithout 1 := ⟨q_1306, q_11, ⟨by decide +kernel, by decide +kernel⟩, by decide +kernel, q_1305, sl_83, by decide⟩
theorem M_X10_drops : MV mX10_drops 1 := ⟨q_1057, q_11, ⟨by decide +kernel, by decide +kernel⟩, by decide +kernel, q_1056, sl_42, by decide⟩
theorem M_X9_facesWithout : MV mX9_facesWithout 1 := ⟨q_766, q_1, ⟨by decide +kernel, by decide +kernel⟩, by decide +kernel, q_765, sl_36, by decide⟩
theorem M_X2_remove : MV mX2_remove 1 := ⟨q_429, q_2, ⟨by decide +kernel, by decide +kernel⟩, by decide +kernel, q_427, q_428, by decide⟩
theorem M_X10_isLine : MV mX10_isLine 1 := ⟨q_1053, q_11, ⟨by decide +kernel, by decide +kernel⟩, by decide +kernel, q_1052, sl_41, by decide⟩
theorem M_X10_tellPieces : MV mX10_tellPieces 0 := ⟨q_1130, q_11, ⟨by decide +kernel, by decide +kernel⟩, by decide +kernel, q_1129, sl_53, by decide⟩
theorem M_X10_partsMany : MV mX10_partsMany 0 := ⟨q_1294, q_11, ⟨by decide +kernel, by decide +kernel⟩, by decide +kernel, q_1293, sl_81, by decide⟩
theorem M_X10_tellHulls : MV mX10_tellHulls 0 := ⟨q_1150, q_11, ⟨by decide +kernel, by decide +kernel⟩, by decide +kernel, q_1149, sl_57, by decide⟩
theorem M_X10_twos : MV mX10_twos 1 := ⟨q_1298, q_11, ⟨by decide +kernel, by decide +kernel⟩, by decide +kernel, q_1297, sl_82, by decide⟩
theorem M_X10_isSide : MV mX10_isSide 2 := ⟨q_1158, q_11, ⟨by decide +kernel, by decide +kernel⟩, by decide +kernel, q_1157, sl_59, by decide⟩
theorem M_X10_placeAt : MV mX10_placeAt 2 := ⟨q_1154, q_11, ⟨by decide +kernel, by decide +kernel⟩, by decide +kernel, q_1153, sl_58, by decide⟩
theorem M_X10_isPiece : MV mX10_isPiece 2 := ⟨q_1134, q_11, ⟨by decide +kernel, by decide +kernel⟩, by decide +kernel, q_1133, sl_54, by decide⟩
theorem M_X10_linesAt : MV mX10_linesAt 1 := ⟨q_1112, q_11, ⟨by decide +kernel, by decide +kernel⟩, by decide +kernel, q_1111, sl_49, by decide⟩
theorem M_X10_linesOn : MV mX10_linesOn 4 := ⟨q_1116, q_11, ⟨by decide +kernel, by decide +kernel⟩, by decide +kernel, q_1115, sl_50, by decide⟩
theorem M_X10_isOn : MV mX10_isOn 5 := ⟨q_1120, q_11, ⟨by decide +kernel, by decide +kernel⟩, by decide +kernel, q_1119, sl_51, by decide⟩
theorem M_X9_knowPoints : MV mX9_knowPoints 0 := ⟨q_446, q_1, ⟨by decide +kernel, by decide +kernel⟩, by decide +kernel, q_445, sl_1, by decide⟩
theorem M_X9_knowHulls : MV mX9_knowHulls 0 := ⟨q_540, q_1, ⟨by decide +kernel, by decide +kernel⟩, by decide +kernel, q_539, sl_12, by decide⟩
theorem M_X9_knowFaces : MV mX9_knowFaces 0 := ⟨q_624, q_1, ⟨by decide +kernel, by decide +kernel⟩, by decide +kernel, q_623, sl_19, by decide⟩
theorem M_X6_cut : MV mX6_cut 3 := ⟨q_628, q_6, ⟨by decide +kernel, by decide +kernel⟩, by decide +kernel, q_626, q_627, by decide⟩
theorem M_X8_find : MV mX8_find 2 := ⟨q_648, q_7, ⟨by decide +kernel, by decide +kernel⟩, by decide +kernel, q_646, q_647, by decide⟩
theorem M_X0_join : MV mX0_join 2 := ⟨q_682, q_8, ⟨by decide +kernel, by decide +kernel⟩, by decide +kernel, q_680, q_681, by decide⟩
theorem M_X0_number : MV mX0_number 1 := ⟨q_696, q_8, ⟨by decide +kernel, by decide +kernel⟩, by decide +kernel, q_695, sl_31, by decide⟩
theorem M_X0_boundByCells : MV mX0_boundByCells 1 := ⟨q_700, q_8, ⟨by decide +kernel, by decide +kernel⟩, by decide +kernel, q_699, sl_32, by decide⟩
theorem M_X0_boundByUprights : MV mX0_boundByUprights 1 := ⟨q_708, q_8, ⟨by decide +kernel, by decide +kernel⟩, by decide +kernel, q_707, sl_34, by decide⟩
theorem M_X0_unite : MV mX0_unite 2 := ⟨q_686, q_8, ⟨by decide +kernel, by decide +kernel⟩, by decide +kernel, q_685, sl_29, by decide⟩
theorem M_X0_rootOf : MV mX0_rootOf 1 := ⟨q_690, q_8, ⟨by decide +kernel, by decide +kernel⟩, by decide +kernel, q_689, sl_30, by decide⟩
theorem M_X0_link : MV mX0_link 2 := ⟨q_704, q_8, ⟨by decide +kernel, by decide +kernel⟩, by decide +kernel, q_703, sl_33, by decide⟩
theorem M_X8_findSteps : MV mX8_findSteps 3 := ⟨q_652, q_7, ⟨by decide +kernel, by decide +kernel⟩, by decide +kernel, q_651, sl_23, by decide⟩
theorem M_X8_cellAt : MV mX8_cellAt 4 := ⟨q_669, q_7, ⟨by decide +kernel, by decide +kernel⟩, by decide +kernel, q_668, sl_26, by decide⟩
theorem M_X8_uprightsAt : MV mX8_uprightsAt 4 := ⟨q_674, q_7, ⟨by decide +kernel, by decide +kernel⟩, by decide +kernel, q_673, sl_27, by decide⟩
theorem M_X8_add : MV mX8_add 3 := ⟨q_678, q_7, ⟨by decide +kernel, by decide +kernel⟩, by decide +kernel, q_677, sl_28, by decide⟩
theorem M_X8_stepsUnder : MV mX8_stepsUnder 2 := ⟨q_662, q_7, ⟨by decide +kernel, by decide +kernel⟩, by decide +kernel, q_661, sl_25, by decide⟩
theorem M_X8_addStep : MV mX8_addStep 2 := ⟨q_658, q_7, ⟨by decide +kernel, by decide +kernel⟩, by decide +kernel, q_657, sl_24, by decide⟩
theorem M_X6_findXs : MV mX6_findXs 1 := ⟨q_632, q_6, ⟨by decide +kernel, by decide +kernel⟩, by decide +kernel, q_631, sl_20, by decide⟩
theorem M_X6_addCell : MV mX6_addCell 3 := ⟨q_637, q_6, ⟨by decide +kernel, by decide +kernel⟩, by decide +kernel, q_636, sl_21, by decide⟩
theorem M_X6_addCells : MV mX6_addCells 3 := ⟨q_642, q_6, ⟨by decide +kernel, by decide +kernel⟩, by decide +kernel, q_641, sl_22, by decide⟩
theorem M_X1_peel : MV mX1_peel 1 := ⟨q_544, q_9, ⟨by decide +kernel, by decide +kernel⟩, by decide +kernel, q_542, q_543, by decide⟩
theorem M_X1_peelOff : MV mX1_peelOff 1 := ⟨q_556, q_9, ⟨by decide +kernel, by decide +kernel⟩, by decide +kernel, q_555, sl_14, by decide⟩
theorem M_X1_add : MV mX1_add 2 := ⟨q_548, q_9, ⟨by decide +kernel, by decide +kernel⟩, by decide +kernel, q_547, sl_13, by decide⟩
theorem M_X1_hullOf : MV mX1_hullOf 2 := ⟨q_552, q_9, ⟨by decide +kernel, by decide +kernel⟩, by decide +kernel, q_550, q_551, by decide⟩
theorem M_X1_isOnBorder : MV mX1_isOnBorder 2 := ⟨q_560, q_9, ⟨by decide +kernel, by decide +kernel⟩, by decide +kernel, q_559, sl_15, by decide⟩
theorem M_X1_isLeft : MV mX1_isLeft 2 := ⟨q_564, q_9, ⟨by decide +kernel, by decide +kernel⟩, by decide +kernel, q_563, sl_16, by decide⟩
theorem M_X1_noneAtTheLeft : MV mX1_noneAtTheLeft 3 := ⟨q_568, q_9, ⟨by decide +kernel, by decide +kernel⟩, by decide +kernel, q_567, sl_17, by decide⟩
theorem M_X10_tellNext : MV mX10_tellNext 0 := ⟨q_1267, q_11, ⟨by decide +kernel, by decide +kernel⟩, by decide +kernel, q_1266, sl_79, by decide⟩
theorem M_X10_hasMore : MV mX10_hasMore 1 := ⟨q_1259, q_11, ⟨by decide +kernel, by decide +kernel⟩, by decide +kernel, q_1258, sl_77, by decide⟩
theorem M_X10_isNext : MV mX10_isNext 2 := ⟨q_1271, q_11, ⟨by decide +kernel, by decide +kernel⟩, by decide +kernel, q_1270, sl_80, by decide⟩
theorem M_X0_way : MV mX0_way 2 := ⟨q_754, q_8, ⟨by decide +kernel, by decide +kernel⟩, by decide +kernel, q_752, q_753, by decide⟩
theorem M_X10_isPlace : MS mX10_isPlace 3 := ⟨q_1278, q_11, ⟨by decide +kernel, by decide +kernel⟩, by decide +kernel, q_1277, by decide⟩
theorem M_X9_canBePlace : MS mX9_canBePlace 3 := ⟨q_730, q_1, ⟨by decide +kernel, by decide +kernel⟩, by decide +kernel, q_729, by decide⟩
theorem M_X9_linesOn : MV mX9_linesOn 3 := ⟨q_734, q_1, ⟨by decide +kernel, by decide +kernel⟩, by decide +kernel, q_733, sl_35, by decide⟩
theorem M_X6_cellAround : MV mX6_cellAround 4 := ⟨q_739, q_6, ⟨by decide +kernel, by decide +kernel⟩, by decide +kernel, q_737, q_738, by decide⟩
theorem M_X10_nextTo : MV mX10_nextTo 1 := ⟨q_1263, q_11, ⟨by decide +kernel, by decide +kernel⟩, by decide +kernel, q_1262, sl_78, by decide⟩
theorem M_X10_borders : MV mX10_borders 1 := ⟨q_1251, q_11, ⟨by decide +kernel, by decide +kernel⟩, by decide +kernel, q_1250, sl_75, by decide⟩
theorem M_X10_bordersAt : MV mX10_bordersAt 2 := ⟨q_1255, q_11, ⟨by decide +kernel, by decide +kernel⟩, by decide +kernel, q_1254, sl_76, by decide⟩
theorem M_J13_bitCount_95d88 : MS mJ13_bitCount_95d88 1 := ⟨q_720, q_14, ⟨by decide +kernel, by decide +kernel⟩, by decide +kernel, q_719, by decide⟩
theorem M_X10_endsAt : MV mX10_endsAt 1 := ⟨q_1126, q_11, ⟨by decide +kernel, by decide +kernel⟩, by decide +kernel, q_1125, sl_52, by decide⟩
theorem M_X4_endsAt : MV mX4_endsAt 2 := ⟨q_591, q_3, ⟨by decide +kernel, by decide +kernel⟩, by decide +kernel, q_589, q_590, by decide⟩
theorem M_X3_isAtOnePlace : MV mX3_isAtOnePlace 0 := ⟨q_583, q_4, ⟨by decide +kernel, by decide +kernel⟩, by decide +kernel, q_581, q_582, by decide⟩
theorem M_X10_pointsOn : MV mX10_pointsOn 1 := ⟨q_1146, q_11, ⟨by decide +kernel, by decide +kernel⟩, by decide +kernel, q_1145, sl_56, by decide⟩
theorem M_X4_countOn : MV mX4_countOn 1 := ⟨q_536, q_3, ⟨by decide +kernel, by decide +kernel⟩, by decide +kernel, q_534, q_535, by decide⟩
