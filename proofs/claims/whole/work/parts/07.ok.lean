abbrev mJ9_max_7cf53 : mD := (yJ9_max_7cf53, cJ9_max_7cf53, 2, (some .int))
abbrev mJ9_min_7cf53 : mD := (yJ9_min_7cf53, cJ9_min_7cf53, 2, (some .int))
abbrev mJ6_bitCount_0f7a4 : mD := (yJ6_bitCount_0f7a4, cJ6_bitCount_0f7a4, 1, (some .int))
abbrev mX8_bitOf : mD := (yX8_bitOf, cX8_bitOf, 1, (some .int))
abbrev mX8_columnBit : mD := (yX8_columnBit, cX8_columnBit, 1, (some .int))
abbrev mX8_yesIn : mD := (yX8_yesIn, cX8_yesIn, 2, (some .int))
abbrev mX8_leastCell : mD := (yX8_leastCell, cX8_leastCell, 2, (some .int))
abbrev mX8_remainder : mD := (yX8_remainder, cX8_remainder, 2, (some .int))
abbrev mX8_power : mD := (yX8_power, cX8_power, 4, (some .int))
abbrev mX8_greatestDivisor : mD := (yX8_greatestDivisor, cX8_greatestDivisor, 6, (some .int))
abbrev mX8_inLeastTerms : mD := (yX8_inLeastTerms, cX8_inLeastTerms, 4, (some .int))
abbrev mX6_become : mD := (yX6_become, cX6_become, 2, none)
abbrev mX6_cells : mD := (yX6_cells, cX6_cells, 1, (some .int))
abbrev mX6_hasRow : mD := (yX6_hasRow, cX6_hasRow, 2, (some .boolean))
abbrev mX6_hasColumn : mD := (yX6_hasColumn, cX6_hasColumn, 2, (some .boolean))
abbrev mX6_hasCell : mD := (yX6_hasCell, cX6_hasCell, 2, (some .boolean))
abbrev mX6_totalCount : mD := (yX6_totalCount, cX6_totalCount, 2, (some .int))
abbrev mX6_hasTotal : mD := (yX6_hasTotal, cX6_hasTotal, 3, (some .boolean))
abbrev mX6_mostTotal : mD := (yX6_mostTotal, cX6_mostTotal, 2, (some .int))
abbrev mX6_totalOf : mD := (yX6_totalOf, cX6_totalOf, 4, (some .int))
abbrev mX6_putTotal : mD := (yX6_putTotal, cX6_putTotal, 5, none)
abbrev mX6_together : mD := (yX6_together, cX6_together, 4, (some .int))
abbrev mX6_totalsAsNumber : mD := (yX6_totalsAsNumber, cX6_totalsAsNumber, 5, (some .long))
abbrev mX6_pinOf : mD := (yX6_pinOf, cX6_pinOf, 2, (some .int))
abbrev mX6_putPin : mD := (yX6_putPin, cX6_putPin, 4, none)
abbrev mX6_pinCount : mD := (yX6_pinCount, cX6_pinCount, 1, (some .int))
abbrev mX6_bitAt : mD := (yX6_bitAt, cX6_bitAt, 3, (some .int))
abbrev mX6_placed : mD := (yX6_placed, cX6_placed, 3, (some .int))
abbrev mX6_columnsOf : mD := (yX6_columnsOf, cX6_columnsOf, 5, (some .int))
abbrev mX6_giving : mD := (yX6_giving, cX6_giving, 5, (some .int))
abbrev mX6_isSwitch : mD := (yX6_isSwitch, cX6_isSwitch, 6, (some .boolean))
abbrev mX6_switched : mD := (yX6_switched, cX6_switched, 6, (some .int))
abbrev mX6_switchCount : mD := (yX6_switchCount, cX6_switchCount, 4, (some .int))
abbrev mX6_firstColumn : mD := (yX6_firstColumn, cX6_firstColumn, 3, (some .int))
abbrev mX6_firstSwitch : mD := (yX6_firstSwitch, cX6_firstSwitch, 5, (some .int))
abbrev mX4_append : mD := (yX4_append, cX4_append, 2, (some .boolean))
abbrev mX4_letterAt : mD := (yX4_letterAt, cX4_letterAt, 2, (some .int))
abbrev mX4_figureAt : mD := (yX4_figureAt, cX4_figureAt, 5, (some .int))
abbrev mX4_readPins : mD := (yX4_readPins, cX4_readPins, 7, (some .int))
abbrev mX4_readSheet : mD := (yX4_readSheet, cX4_readSheet, 5, (some .int))
abbrev mX1_columnsWith : mD := (yX1_columnsWith, cX1_columnsWith, 4, (some .int))
abbrev mX1_addUnpinned : mD := (yX1_addUnpinned, cX1_addUnpinned, 2, none)
abbrev mX1_addFrom : mD := (yX1_addFrom, cX1_addFrom, 16, none)
abbrev mX1_narrowTo : mD := (yX1_narrowTo, cX1_narrowTo, 4, none)
abbrev mX1_listFor : mD := (yX1_listFor, cX1_listFor, 4, none)
abbrev mX1_numberOf : mD := (yX1_numberOf, cX1_numberOf, 5, (some .int))
abbrev mX1_openCells : mD := (yX1_openCells, cX1_openCells, 1, (some .int))
abbrev mX1_sureAt : mD := (yX1_sureAt, cX1_sureAt, 2, (some .int))
abbrev mX1_yesAt : mD := (yX1_yesAt, cX1_yesAt, 5, (some .int))
abbrev mX0_add : mD := (yX0_add, cX0_add, 2, none)
abbrev mX0_takeBack : mD := (yX0_takeBack, cX0_takeBack, 2, none)
abbrev mX3_orderRows : mD := (yX3_orderRows, cX3_orderRows, 4, none)
abbrev mX3_roomOf : mD := (yX3_roomOf, cX3_roomOf, 4, (some .int))
abbrev mX3_failsAt : mD := (yX3_failsAt, cX3_failsAt, 4, (some .int))
abbrev mX3_chooseColumns : mD := (yX3_chooseColumns, cX3_chooseColumns, 8, (some .int))
abbrev mX3_fill : mD := (yX3_fill, cX3_fill, 5, (some .int))
abbrev mX2_settle : mD := (yX2_settle, cX2_settle, 1, none)
abbrev mX2_planeAt : mD := (yX2_planeAt, cX2_planeAt, 2, (some .int))
abbrev mX2_switchRefusal : mD := (yX2_switchRefusal, cX2_switchRefusal, 6, (some .int))
abbrev mX2_makeSwitch : mD := (yX2_makeSwitch, cX2_makeSwitch, 5, none)
abbrev mX2_totalRefusal : mD := (yX2_totalRefusal, cX2_totalRefusal, 4, (some .int))
abbrev mX2_pinRefusal : mD := (yX2_pinRefusal, cX2_pinRefusal, 4, (some .int))
abbrev mX2_takesSwitch : mD := (yX2_takesSwitch, cX2_takesSwitch, 6, (some .boolean))
abbrev mX2_takesPin : mD := (yX2_takesPin, cX2_takesPin, 4, (some .boolean))
abbrev mX2_takesTotal : mD := (yX2_takesTotal, cX2_takesTotal, 5, (some .boolean))
abbrev mX2_takes : mD := (yX2_takes, cX2_takes, 7, (some .boolean))
abbrev mX2_tellingApart : mD := (yX2_tellingApart, cX2_tellingApart, 5, (some .int))
abbrev mX2_findKeyOfTwo : mD := (yX2_findKeyOfTwo, cX2_findKeyOfTwo, 3, (some .int))
abbrev mX2_findKeyOfThree : mD := (yX2_findKeyOfThree, cX2_findKeyOfThree, 4, (some .int))
abbrev mX2_findKey : mD := (yX2_findKey, cX2_findKey, 3, (some .int))
abbrev mX7_reach : mD := (yX7_reach, cX7_reach, 5, none)
abbrev mX7_reachByRows : mD := (yX7_reachByRows, cX7_reachByRows, 11, none)
abbrev mX7_reachAround : mD := (yX7_reachAround, cX7_reachAround, 5, none)
abbrev mX7_goFrom : mD := (yX7_goFrom, cX7_goFrom, 3, none)
abbrev mX7_stepsTo : mD := (yX7_stepsTo, cX7_stepsTo, 2, (some .int))
abbrev mX5_listPins : mD := (yX5_listPins, cX5_listPins, 3, none)
abbrev mX5_brokenBy : mD := (yX5_brokenBy, cX5_brokenBy, 6, (some .int))
abbrev mX5_weigh : mD := (yX5_weigh, cX5_weigh, 5, none)
abbrev mX5_orders : mD := (yX5_orders, cX5_orders, 4, (some .int))
abbrev mX5_fewerInAllOrders : mD := (yX5_fewerInAllOrders, cX5_fewerInAllOrders, 7, (some .int))
abbrev mX5_chancesOfOne : mD := (yX5_chancesOfOne, cX5_chancesOfOne, 5, (some .int))
abbrev mX8_write : mD := (yX8_write, cX8_write, 2, (some .int))
abbrev mX8_wipe : mD := (yX8_wipe, cX8_wipe, 2, (some .int))
abbrev mX8_fault : mD := (yX8_fault, cX8_fault, 1, (some .int))
abbrev mX8_sheet : mD := (yX8_sheet, cX8_sheet, 2, (some .int))
abbrev mX8_total : mD := (yX8_total, cX8_total, 3, (some .int))
abbrev mX8_pin : mD := (yX8_pin, cX8_pin, 2, (some .int))
abbrev mX8_test : mD := (yX8_test, cX8_test, 1, (some .int))
abbrev mX8_filled : mD := (yX8_filled, cX8_filled, 2, (some .int))
abbrev mX8_mended : mD := (yX8_mended, cX8_mended, 8, (some .int))
abbrev mX8_answers : mD := (yX8_answers, cX8_answers, 1, (some .int))
abbrev mX8_cell : mD := (yX8_cell, cX8_cell, 3, (some .int))
abbrev mX8_odds : mD := (yX8_odds, cX8_odds, 3, (some .int))
abbrev mX8_ask : mD := (yX8_ask, cX8_ask, 7, (some .int))
abbrev mX8_plane : mD := (yX8_plane, cX8_plane, 1, (some .int))
abbrev mX8_go : mD := (yX8_go, cX8_go, 3, (some .int))
abbrev mX8_swap : mD := (yX8_swap, cX8_swap, 6, (some .int))
abbrev mX8_setTotal : mD := (yX8_setTotal, cX8_setTotal, 5, (some .int))
abbrev mX8_setPin : mD := (yX8_setPin, cX8_setPin, 4, (some .int))
abbrev mX8_undo : mD := (yX8_undo, cX8_undo, 1, (some .int))
abbrev mX8_switches : mD := (yX8_switches, cX8_switches, 2, (some .int))
abbrev mX8_reached : mD := (yX8_reached, cX8_reached, 1, (some .int))
abbrev mX8_apart : mD := (yX8_apart, cX8_apart, 3, (some .int))
abbrev mX8_key : mD := (yX8_key, cX8_key, 5, (some .int))
abbrev mX8_judge : mD := (yX8_judge, cX8_judge, 8, (some .int))
abbrev mX8_see : mD := (yX8_see, cX8_see, 3, (some .int))
abbrev mX8_unsee : mD := (yX8_unsee, cX8_unsee, 2, (some .int))
abbrev mX8_which : mD := (yX8_which, cX8_which, 6, (some .int))
abbrev mX8_share : mD := (yX8_share, cX8_share, 3, (some .int))
abbrev mX8_loose : mD := (yX8_loose, cX8_loose, 3, (some .int))
abbrev mX8_seed : mD := (yX8_seed, cX8_seed, 5, (some .long))
abbrev mX8_drawSwitch : mD := (yX8_drawSwitch, cX8_drawSwitch, 9, (some .int))
abbrev mX8_drawn : mD := (yX8_drawn, cX8_drawn, 5, (some .int))
abbrev mX8_keep : mD := (yX8_keep, cX8_keep, 2, (some .int))
abbrev mX8_again : mD := (yX8_again, cX8_again, 2, (some .int))
abbrev mX8_count : mD := (yX8_count, cX8_count, 2, (some .int))
abbrev mX9_in : mD := (yX9_in, cX9_in, 6, (some .boolean))
abbrev mX9_has : mD := (yX9_has, cX9_has, 2, (some .boolean))
abbrev mX9_ones : mD := (yX9_ones, cX9_ones, 3, (some .int))
abbrev mX9_cells : mD := (yX9_cells, cX9_cells, 1, (some .int))
abbrev mX9_isYes : mD := (yX9_isYes, cX9_isYes, 3, (some .boolean))
abbrev mX9_noCell : mD := (yX9_noCell, cX9_noCell, 2, (some .boolean))
abbrev mX9_lay : mD := (yX9_lay, cX9_lay, 3, none)
abbrev mX9_write : mD := (yX9_write, cX9_write, 2, (some .int))
abbrev mX9_wipe : mD := (yX9_wipe, cX9_wipe, 2, (some .int))
abbrev mX9_figure : mD := (yX9_figure, cX9_figure, 4, (some .int))
abbrev mX9_pinned : mD := (yX9_pinned, cX9_pinned, 3, (some .int))
abbrev mX9_isFullRow : mD := (yX9_isFullRow, cX9_isFullRow, 4, (some .boolean))
abbrev mX9_readPins : mD := (yX9_readPins, cX9_readPins, 7, (some .int))
abbrev mX9_readSheet : mD := (yX9_readSheet, cX9_readSheet, 5, (some .int))
abbrev mX9_fault : mD := (yX9_fault, cX9_fault, 1, (some .int))
abbrev mX9_findMasks : mD := (yX9_findMasks, cX9_findMasks, 9, none)
abbrev mX9_packed : mD := (yX9_packed, cX9_packed, 4, (some .int))
abbrev mX9_target : mD := (yX9_target, cX9_target, 3, (some .int))
abbrev mX9_list : mD := (yX9_list, cX9_list, 13, none)
abbrev mX9_place : mD := (yX9_place, cX9_place, 4, (some .int))
abbrev mX9_settle : mD := (yX9_settle, cX9_settle, 2, none)
abbrev mX9_sheet : mD := (yX9_sheet, cX9_sheet, 1, (some .int))
abbrev mX9_noLine : mD := (yX9_noLine, cX9_noLine, 3, (some .boolean))
abbrev mX9_totalAt : mD := (yX9_totalAt, cX9_totalAt, 2, (some .int))
abbrev mX9_total : mD := (yX9_total, cX9_total, 3, (some .int))
abbrev mX9_pin : mD := (yX9_pin, cX9_pin, 2, (some .int))
abbrev mX9_sum : mD := (yX9_sum, cX9_sum, 5, (some .int))
abbrev mX9_greatest : mD := (yX9_greatest, cX9_greatest, 6, (some .int))
abbrev mX9_tested : mD := (yX9_tested, cX9_tested, 4, (some .int))
abbrev mX9_test : mD := (yX9_test, cX9_test, 1, (some .int))
abbrev mX9_orderRows : mD := (yX9_orderRows, cX9_orderRows, 4, none)
abbrev mX9_ahead : mD := (yX9_ahead, cX9_ahead, 4, (some .int))
abbrev mX9_fill : mD := (yX9_fill, cX9_fill, 6, (some .int))
abbrev mX9_filled : mD := (yX9_filled, cX9_filled, 2, (some .int))
abbrev mX9_mended : mD := (yX9_mended, cX9_mended, 10, (some .int))
abbrev mX9_answers : mD := (yX9_answers, cX9_answers, 1, (some .int))
abbrev mX9_yesIn : mD := (yX9_yesIn, cX9_yesIn, 5, (some .int))
abbrev mX9_sure : mD := (yX9_sure, cX9_sure, 4, (some .int))
abbrev mX9_cell : mD := (yX9_cell, cX9_cell, 3, (some .int))
abbrev mX9_divisor : mD := (yX9_divisor, cX9_divisor, 5, (some .int))
abbrev mX9_fraction : mD := (yX9_fraction, cX9_fraction, 4, (some .int))
abbrev mX9_odds : mD := (yX9_odds, cX9_odds, 3, (some .int))
abbrev mX9_ask : mD := (yX9_ask, cX9_ask, 7, (some .int))
abbrev mX9_plane : mD := (yX9_plane, cX9_plane, 1, (some .int))
abbrev mX9_note : mD := (yX9_note, cX9_note, 2, none)
abbrev mX9_go : mD := (yX9_go, cX9_go, 3, (some .int))
abbrev mX9_bit : mD := (yX9_bit, cX9_bit, 3, (some .int))
abbrev mX9_four : mD := (yX9_four, cX9_four, 10, (some .int))
abbrev mX9_countSwitches : mD := (yX9_countSwitches, cX9_countSwitches, 12, (some .int))
abbrev mX9_swap : mD := (yX9_swap, cX9_swap, 6, (some .int))
abbrev mX9_setTotal : mD := (yX9_setTotal, cX9_setTotal, 4, (some .int))
abbrev mX9_tooMany : mD := (yX9_tooMany, cX9_tooMany, 3, (some .boolean))
abbrev mX9_setPin : mD := (yX9_setPin, cX9_setPin, 3, (some .int))
abbrev mX9_undo : mD := (yX9_undo, cX9_undo, 2, (some .int))
abbrev mX9_switches : mD := (yX9_switches, cX9_switches, 2, (some .int))
abbrev mX9_areFour : mD := (yX9_areFour, cX9_areFour, 3, (some .boolean))
abbrev mX9_spread : mD := (yX9_spread, cX9_spread, 4, (some .int))
abbrev mX9_reached : mD := (yX9_reached, cX9_reached, 1, (some .int))
abbrev mX9_apart : mD := (yX9_apart, cX9_apart, 5, (some .int))
abbrev mX9_tells : mD := (yX9_tells, cX9_tells, 4, (some .boolean))
abbrev mX9_cellBit : mD := (yX9_cellBit, cX9_cellBit, 2, (some .int))
abbrev mX9_findKey : mD := (yX9_findKey, cX9_findKey, 6, none)
abbrev mX9_key : mD := (yX9_key, cX9_key, 2, (some .int))
abbrev mX9_longPower : mD := (yX9_longPower, cX9_longPower, 6, (some .long))
abbrev mX9_putTotal : mD := (yX9_putTotal, cX9_putTotal, 5, (some .boolean))
abbrev mX9_putPin : mD := (yX9_putPin, cX9_putPin, 4, (some .boolean))
abbrev mX9_putSwitch : mD := (yX9_putSwitch, cX9_putSwitch, 7, (some .boolean))
abbrev mX9_does : mD := (yX9_does, cX9_does, 8, (some .boolean))
abbrev mX9_judge : mD := (yX9_judge, cX9_judge, 5, (some .int))
abbrev mX9_see : mD := (yX9_see, cX9_see, 3, (some .int))
abbrev mX9_unsee : mD := (yX9_unsee, cX9_unsee, 2, (some .int))
abbrev mX9_agrees : mD := (yX9_agrees, cX9_agrees, 5, (some .boolean))
abbrev mX9_which : mD := (yX9_which, cX9_which, 5, (some .int))
abbrev mX9_listPins : mD := (yX9_listPins, cX9_listPins, 3, (some .int))
abbrev mX9_holds : mD := (yX9_holds, cX9_holds, 6, (some .boolean))
abbrev mX9_weigh : mD := (yX9_weigh, cX9_weigh, 4, (some .int))
abbrev mX9_factorial : mD := (yX9_factorial, cX9_factorial, 3, (some .int))
abbrev mX9_share : mD := (yX9_share, cX9_share, 8, (some .int))
abbrev mX9_power : mD := (yX9_power, cX9_power, 4, (some .int))
abbrev mX9_loose : mD := (yX9_loose, cX9_loose, 7, (some .int))
abbrev mX9_seed : mD := (yX9_seed, cX9_seed, 5, (some .long))
abbrev mX9_drawn : mD := (yX9_drawn, cX9_drawn, 7, (some .int))
abbrev mX9_keep : mD := (yX9_keep, cX9_keep, 3, (some .int))
abbrev mX9_again : mD := (yX9_again, cX9_again, 3, (some .int))
abbrev mX9_openCells : mD := (yX9_openCells, cX9_openCells, 3, (some .int))
abbrev mX9_count : mD := (yX9_count, cX9_count, 2, (some .int))
theorem ok_X8_bitOf : mOk mX8_bitOf 1 := ⟨by decide +kernel, by decide, mt (i := 396) (by decide +kernel) rfl, mt (i := 1) (by decide +kernel) rfl⟩
theorem ok_X8_greatestDivisor : mOk mX8_greatestDivisor 2 := ⟨by decide +kernel, by decide, mt (i := 518) (by decide +kernel) rfl, mt (i := 1) (by decide +kernel) rfl⟩
theorem ok_J9_max_7cf53 : mOk mJ9_max_7cf53 2 := ⟨by decide +kernel, by decide, mt (i := 521) (by decide +kernel) rfl, mt (i := 13) (by decide +kernel) rfl⟩
theorem ok_X6_cells : mOk mX6_cells 0 := ⟨by decide +kernel, by decide, mt (i := 384) (by decide +kernel) rfl, mt (i := 3) (by decide +kernel) rfl⟩
theorem ok_X6_totalCount : mOk mX6_totalCount 1 := ⟨by decide +kernel, by decide, mt (i := 250) (by decide +kernel) rfl, mt (i := 3) (by decide +kernel) rfl⟩
theorem ok_X6_totalOf : mOk mX6_totalOf 2 := ⟨by decide +kernel, by decide, mt (i := 254) (by decide +kernel) rfl, mt (i := 3) (by decide +kernel) rfl⟩
theorem ok_J6_bitCount_0f7a4 : mOk mJ6_bitCount_0f7a4 1 := ⟨by decide +kernel, by decide, mt (i := 377) (by decide +kernel) rfl, mt (i := 11) (by decide +kernel) rfl⟩
theorem ok_X6_columnsOf : mOk mX6_columnsOf 2 := ⟨by decide +kernel, by decide, mt (i := 388) (by decide +kernel) rfl, mt (i := 3) (by decide +kernel) rfl⟩
theorem ok_X6_giving : mOk mX6_giving 3 := ⟨by decide +kernel, by decide, mt (i := 563) (by decide +kernel) rfl, mt (i := 3) (by decide +kernel) rfl⟩
theorem ok_X8_columnBit : mOk mX8_columnBit 1 := ⟨by decide +kernel, by decide, mt (i := 261) (by decide +kernel) rfl, mt (i := 1) (by decide +kernel) rfl⟩
theorem ok_X6_bitAt : mOk mX6_bitAt 2 := ⟨by decide +kernel, by decide, mt (i := 393) (by decide +kernel) rfl, mt (i := 3) (by decide +kernel) rfl⟩
theorem ok_X6_firstColumn : mOk mX6_firstColumn 1 := ⟨by decide +kernel, by decide, mt (i := 620) (by decide +kernel) rfl, mt (i := 3) (by decide +kernel) rfl⟩
theorem ok_X4_letterAt : mOk mX4_letterAt 1 := ⟨by decide +kernel, by decide, mt (i := 353) (by decide +kernel) rfl, mt (i := 5) (by decide +kernel) rfl⟩
theorem ok_X6_pinCount : mOk mX6_pinCount 0 := ⟨by decide +kernel, by decide, mt (i := 374) (by decide +kernel) rfl, mt (i := 3) (by decide +kernel) rfl⟩
theorem ok_X4_figureAt : mOk mX4_figureAt 3 := ⟨by decide +kernel, by decide, mt (i := 357) (by decide +kernel) rfl, mt (i := 5) (by decide +kernel) rfl⟩
theorem ok_X6_putPin : mOk mX6_putPin 2 := ⟨by decide +kernel, by decide, mt (i := 400) (by decide +kernel) rfl, mt (i := 3) (by decide +kernel) rfl⟩
theorem ok_X4_readPins : mOk mX4_readPins 1 := ⟨by decide +kernel, by decide, mt (i := 370) (by decide +kernel) rfl, mt (i := 5) (by decide +kernel) rfl⟩
theorem ok_X6_mostTotal : mOk mX6_mostTotal 1 := ⟨by decide +kernel, by decide, mt (i := 362) (by decide +kernel) rfl, mt (i := 3) (by decide +kernel) rfl⟩
theorem ok_X6_putTotal : mOk mX6_putTotal 3 := ⟨by decide +kernel, by decide, mt (i := 366) (by decide +kernel) rfl, mt (i := 3) (by decide +kernel) rfl⟩
theorem ok_X6_hasRow : mOk mX6_hasRow 1 := ⟨by decide +kernel, by decide, mt (i := 268) (by decide +kernel) rfl, mt (i := 3) (by decide +kernel) rfl⟩
theorem ok_X6_placed : mOk mX6_placed 2 := ⟨by decide +kernel, by decide, mt (i := 280) (by decide +kernel) rfl, mt (i := 3) (by decide +kernel) rfl⟩
theorem ok_X1_addFrom : mOk mX1_addFrom 7 := ⟨by decide +kernel, by decide, mt (i := 264) (by decide +kernel) rfl, mt (i := 4) (by decide +kernel) rfl⟩
theorem ok_X1_addUnpinned : mOk mX1_addUnpinned 1 := ⟨by decide +kernel, by decide, mt (i := 272) (by decide +kernel) rfl, mt (i := 4) (by decide +kernel) rfl⟩
theorem ok_X6_totalsAsNumber : mOk mX6_totalsAsNumber 0 := ⟨by decide +kernel, by decide, mt (i := 245) (by decide +kernel) rfl, mt (i := 3) (by decide +kernel) rfl⟩
theorem ok_X1_narrowTo : mOk mX1_narrowTo 1 := ⟨by decide +kernel, by decide, mt (i := 284) (by decide +kernel) rfl, mt (i := 4) (by decide +kernel) rfl⟩
theorem ok_X1_columnsWith : mOk mX1_columnsWith 2 := ⟨by decide +kernel, by decide, mt (i := 257) (by decide +kernel) rfl, mt (i := 4) (by decide +kernel) rfl⟩
theorem ok_X1_openCells : mOk mX1_openCells 0 := ⟨by decide +kernel, by decide, mt (i := 502) (by decide +kernel) rfl, mt (i := 4) (by decide +kernel) rfl⟩
theorem ok_X8_yesIn : mOk mX8_yesIn 2 := ⟨by decide +kernel, by decide, mt (i := 473) (by decide +kernel) rfl, mt (i := 1) (by decide +kernel) rfl⟩
theorem ok_X6_become : mOk mX6_become 1 := ⟨by decide +kernel, by decide, mt (i := 408) (by decide +kernel) rfl, mt (i := 3) (by decide +kernel) rfl⟩
theorem ok_J9_min_7cf53 : mOk mJ9_min_7cf53 2 := ⟨by decide +kernel, by decide, mt (i := 456) (by decide +kernel) rfl, mt (i := 13) (by decide +kernel) rfl⟩
theorem ok_X6_together : mOk mX6_together 1 := ⟨by decide +kernel, by decide, mt (i := 445) (by decide +kernel) rfl, mt (i := 3) (by decide +kernel) rfl⟩
theorem ok_X3_orderRows : mOk mX3_orderRows 1 := ⟨by decide +kernel, by decide, mt (i := 449) (by decide +kernel) rfl, mt (i := 7) (by decide +kernel) rfl⟩
theorem ok_X3_roomOf : mOk mX3_roomOf 2 := ⟨by decide +kernel, by decide, mt (i := 453) (by decide +kernel) rfl, mt (i := 7) (by decide +kernel) rfl⟩
theorem ok_X3_chooseColumns : mOk mX3_chooseColumns 2 := ⟨by decide +kernel, by decide, mt (i := 468) (by decide +kernel) rfl, mt (i := 7) (by decide +kernel) rfl⟩
theorem ok_X1_listFor : mOk mX1_listFor 1 := ⟨by decide +kernel, by decide, mt (i := 241) (by decide +kernel) rfl, mt (i := 4) (by decide +kernel) rfl⟩
theorem ok_X1_numberOf : mOk mX1_numberOf 1 := ⟨by decide +kernel, by decide, mt (i := 288) (by decide +kernel) rfl, mt (i := 4) (by decide +kernel) rfl⟩
theorem ok_X6_hasColumn : mOk mX6_hasColumn 1 := ⟨by decide +kernel, by decide, mt (i := 555) (by decide +kernel) rfl, mt (i := 3) (by decide +kernel) rfl⟩
theorem ok_X6_isSwitch : mOk mX6_isSwitch 5 := ⟨by decide +kernel, by decide, mt (i := 559) (by decide +kernel) rfl, mt (i := 3) (by decide +kernel) rfl⟩
theorem ok_X6_switched : mOk mX6_switched 5 := ⟨by decide +kernel, by decide, mt (i := 573) (by decide +kernel) rfl, mt (i := 3) (by decide +kernel) rfl⟩
theorem ok_X6_hasTotal : mOk mX6_hasTotal 2 := ⟨by decide +kernel, by decide, mt (i := 419) (by decide +kernel) rfl, mt (i := 3) (by decide +kernel) rfl⟩
theorem ok_X6_hasCell : mOk mX6_hasCell 1 := ⟨by decide +kernel, by decide, mt (i := 428) (by decide +kernel) rfl, mt (i := 3) (by decide +kernel) rfl⟩
theorem ok_X6_pinOf : mOk mX6_pinOf 1 := ⟨by decide +kernel, by decide, mt (i := 433) (by decide +kernel) rfl, mt (i := 3) (by decide +kernel) rfl⟩
theorem ok_X2_switchRefusal : mOk mX2_switchRefusal 4 := ⟨by decide +kernel, by decide, mt (i := 550) (by decide +kernel) rfl, mt (i := 2) (by decide +kernel) rfl⟩
theorem ok_X2_makeSwitch : mOk mX2_makeSwitch 4 := ⟨by decide +kernel, by decide, mt (i := 569) (by decide +kernel) rfl, mt (i := 2) (by decide +kernel) rfl⟩
theorem ok_X2_pinRefusal : mOk mX2_pinRefusal 2 := ⟨by decide +kernel, by decide, mt (i := 596) (by decide +kernel) rfl, mt (i := 2) (by decide +kernel) rfl⟩
theorem ok_X2_settle : mOk mX2_settle 0 := ⟨by decide +kernel, by decide, mt (i := 237) (by decide +kernel) rfl, mt (i := 2) (by decide +kernel) rfl⟩
theorem ok_X2_totalRefusal : mOk mX2_totalRefusal 3 := ⟨by decide +kernel, by decide, mt (i := 586) (by decide +kernel) rfl, mt (i := 2) (by decide +kernel) rfl⟩
theorem ok_X2_takesSwitch : mOk mX2_takesSwitch 4 := ⟨by decide +kernel, by decide, mt (i := 691) (by decide +kernel) rfl, mt (i := 2) (by decide +kernel) rfl⟩
theorem ok_X2_takesPin : mOk mX2_takesPin 2 := ⟨by decide +kernel, by decide, mt (i := 697) (by decide +kernel) rfl, mt (i := 2) (by decide +kernel) rfl⟩
theorem ok_X2_takesTotal : mOk mX2_takesTotal 3 := ⟨by decide +kernel, by decide, mt (i := 704) (by decide +kernel) rfl, mt (i := 2) (by decide +kernel) rfl⟩
theorem ok_X2_planeAt : mOk mX2_planeAt 1 := ⟨by decide +kernel, by decide, mt (i := 493) (by decide +kernel) rfl, mt (i := 2) (by decide +kernel) rfl⟩
theorem ok_X1_sureAt : mOk mX1_sureAt 1 := ⟨by decide +kernel, by decide, mt (i := 498) (by decide +kernel) rfl, mt (i := 4) (by decide +kernel) rfl⟩
theorem ok_X2_tellingApart : mOk mX2_tellingApart 1 := ⟨by decide +kernel, by decide, mt (i := 664) (by decide +kernel) rfl, mt (i := 2) (by decide +kernel) rfl⟩
theorem ok_X8_leastCell : mOk mX8_leastCell 1 := ⟨by decide +kernel, by decide, mt (i := 667) (by decide +kernel) rfl, mt (i := 1) (by decide +kernel) rfl⟩
theorem ok_X2_findKeyOfTwo : mOk mX2_findKeyOfTwo 0 := ⟨by decide +kernel, by decide, mt (i := 671) (by decide +kernel) rfl, mt (i := 2) (by decide +kernel) rfl⟩
theorem ok_X2_findKeyOfThree : mOk mX2_findKeyOfThree 0 := ⟨by decide +kernel, by decide, mt (i := 677) (by decide +kernel) rfl, mt (i := 2) (by decide +kernel) rfl⟩
theorem ok_X7_reach : mOk mX7_reach 3 := ⟨by decide +kernel, by decide, mt (i := 632) (by decide +kernel) rfl, mt (i := 8) (by decide +kernel) rfl⟩
theorem ok_X7_reachByRows : mOk mX7_reachByRows 4 := ⟨by decide +kernel, by decide, mt (i := 641) (by decide +kernel) rfl, mt (i := 8) (by decide +kernel) rfl⟩
theorem ok_X7_reachAround : mOk mX7_reachAround 2 := ⟨by decide +kernel, by decide, mt (i := 637) (by decide +kernel) rfl, mt (i := 8) (by decide +kernel) rfl⟩
theorem ok_X5_listPins : mOk mX5_listPins 1 := ⟨by decide +kernel, by decide, mt (i := 732) (by decide +kernel) rfl, mt (i := 9) (by decide +kernel) rfl⟩
theorem ok_X5_brokenBy : mOk mX5_brokenBy 2 := ⟨by decide +kernel, by decide, mt (i := 738) (by decide +kernel) rfl, mt (i := 9) (by decide +kernel) rfl⟩
theorem ok_X5_orders : mOk mX5_orders 1 := ⟨by decide +kernel, by decide, mt (i := 748) (by decide +kernel) rfl, mt (i := 9) (by decide +kernel) rfl⟩
theorem ok_X8_power : mOk mX8_power 2 := ⟨by decide +kernel, by decide, mt (i := 760) (by decide +kernel) rfl, mt (i := 1) (by decide +kernel) rfl⟩
theorem ok_X4_append : mOk mX4_append 1 := ⟨by decide +kernel, by decide, mt (i := 337) (by decide +kernel) rfl, mt (i := 5) (by decide +kernel) rfl⟩
theorem ok_X4_readSheet : mOk mX4_readSheet 0 := ⟨by decide +kernel, by decide, mt (i := 349) (by decide +kernel) rfl, mt (i := 5) (by decide +kernel) rfl⟩
theorem ok_X3_failsAt : mOk mX3_failsAt 1 := ⟨by decide +kernel, by decide, mt (i := 441) (by decide +kernel) rfl, mt (i := 7) (by decide +kernel) rfl⟩
theorem ok_X3_fill : mOk mX3_fill 1 := ⟨by decide +kernel, by decide, mt (i := 464) (by decide +kernel) rfl, mt (i := 7) (by decide +kernel) rfl⟩
theorem ok_X1_yesAt : mOk mX1_yesAt 1 := ⟨by decide +kernel, by decide, mt (i := 507) (by decide +kernel) rfl, mt (i := 4) (by decide +kernel) rfl⟩
theorem ok_X8_inLeastTerms : mOk mX8_inLeastTerms 3 := ⟨by decide +kernel, by decide, mt (i := 515) (by decide +kernel) rfl, mt (i := 1) (by decide +kernel) rfl⟩
theorem ok_X0_add : mOk mX0_add 1 := ⟨by decide +kernel, by decide, mt (i := 539) (by decide +kernel) rfl, mt (i := 6) (by decide +kernel) rfl⟩
theorem ok_X6_switchCount : mOk mX6_switchCount 0 := ⟨by decide +kernel, by decide, mt (i := 578) (by decide +kernel) rfl, mt (i := 3) (by decide +kernel) rfl⟩
theorem ok_X0_takeBack : mOk mX0_takeBack 1 := ⟨by decide +kernel, by decide, mt (i := 608) (by decide +kernel) rfl, mt (i := 6) (by decide +kernel) rfl⟩
theorem ok_X6_firstSwitch : mOk mX6_firstSwitch 0 := ⟨by decide +kernel, by decide, mt (i := 616) (by decide +kernel) rfl, mt (i := 3) (by decide +kernel) rfl⟩
theorem ok_X7_goFrom : mOk mX7_goFrom 1 := ⟨by decide +kernel, by decide, mt (i := 628) (by decide +kernel) rfl, mt (i := 8) (by decide +kernel) rfl⟩
theorem ok_X7_stepsTo : mOk mX7_stepsTo 1 := ⟨by decide +kernel, by decide, mt (i := 652) (by decide +kernel) rfl, mt (i := 8) (by decide +kernel) rfl⟩
theorem ok_X2_findKey : mOk mX2_findKey 0 := ⟨by decide +kernel, by decide, mt (i := 660) (by decide +kernel) rfl, mt (i := 2) (by decide +kernel) rfl⟩
theorem ok_X2_takes : mOk mX2_takes 1 := ⟨by decide +kernel, by decide, mt (i := 687) (by decide +kernel) rfl, mt (i := 2) (by decide +kernel) rfl⟩
theorem ok_X5_weigh : mOk mX5_weigh 1 := ⟨by decide +kernel, by decide, mt (i := 728) (by decide +kernel) rfl, mt (i := 9) (by decide +kernel) rfl⟩
theorem ok_X5_fewerInAllOrders : mOk mX5_fewerInAllOrders 1 := ⟨by decide +kernel, by decide, mt (i := 743) (by decide +kernel) rfl, mt (i := 9) (by decide +kernel) rfl⟩
theorem ok_X5_chancesOfOne : mOk mX5_chancesOfOne 1 := ⟨by decide +kernel, by decide, mt (i := 757) (by decide +kernel) rfl, mt (i := 9) (by decide +kernel) rfl⟩
theorem ok_X8_remainder : mOk mX8_remainder 2 := ⟨by decide +kernel, by decide, mt (i := 778) (by decide +kernel) rfl, mt (i := 1) (by decide +kernel) rfl⟩
theorem ok_X8_drawSwitch : mOk mX8_drawSwitch 2 := ⟨by decide +kernel, by decide, mt (i := 775) (by decide +kernel) rfl, mt (i := 1) (by decide +kernel) rfl⟩
theorem ok_X9_cells : mOk mX9_cells 1 := ⟨by decide +kernel, by decide, mt (i := 914) (by decide +kernel) rfl, mt (i := 10) (by decide +kernel) rfl⟩
theorem ok_X9_has : mOk mX9_has 2 := ⟨by decide +kernel, by decide, mt (i := 942) (by decide +kernel) rfl, mt (i := 10) (by decide +kernel) rfl⟩
theorem ok_X9_in : mOk mX9_in 3 := ⟨by decide +kernel, by decide, mt (i := 888) (by decide +kernel) rfl, mt (i := 10) (by decide +kernel) rfl⟩
theorem ok_X9_pinned : mOk mX9_pinned 1 := ⟨by decide +kernel, by decide, mt (i := 911) (by decide +kernel) rfl, mt (i := 10) (by decide +kernel) rfl⟩
theorem ok_X9_figure : mOk mX9_figure 3 := ⟨by decide +kernel, by decide, mt (i := 904) (by decide +kernel) rfl, mt (i := 10) (by decide +kernel) rfl⟩
theorem ok_X9_isFullRow : mOk mX9_isFullRow 2 := ⟨by decide +kernel, by decide, mt (i := 917) (by decide +kernel) rfl, mt (i := 10) (by decide +kernel) rfl⟩
theorem ok_X9_readPins : mOk mX9_readPins 1 := ⟨by decide +kernel, by decide, mt (i := 908) (by decide +kernel) rfl, mt (i := 10) (by decide +kernel) rfl⟩
theorem ok_X9_readSheet : mOk mX9_readSheet 0 := ⟨by decide +kernel, by decide, mt (i := 900) (by decide +kernel) rfl, mt (i := 10) (by decide +kernel) rfl⟩
theorem ok_X9_ones : mOk mX9_ones 1 := ⟨by decide +kernel, by decide, mt (i := 939) (by decide +kernel) rfl, mt (i := 10) (by decide +kernel) rfl⟩
theorem ok_X9_target : mOk mX9_target 1 := ⟨by decide +kernel, by decide, mt (i := 945) (by decide +kernel) rfl, mt (i := 10) (by decide +kernel) rfl⟩
theorem ok_X9_packed : mOk mX9_packed 2 := ⟨by decide +kernel, by decide, mt (i := 948) (by decide +kernel) rfl, mt (i := 10) (by decide +kernel) rfl⟩
theorem ok_X9_findMasks : mOk mX9_findMasks 3 := ⟨by decide +kernel, by decide, mt (i := 936) (by decide +kernel) rfl, mt (i := 10) (by decide +kernel) rfl⟩
theorem ok_X9_list : mOk mX9_list 2 := ⟨by decide +kernel, by decide, mt (i := 932) (by decide +kernel) rfl, mt (i := 10) (by decide +kernel) rfl⟩
theorem ok_X9_place : mOk mX9_place 1 := ⟨by decide +kernel, by decide, mt (i := 952) (by decide +kernel) rfl, mt (i := 10) (by decide +kernel) rfl⟩
theorem ok_X9_lay : mOk mX9_lay 2 := ⟨by decide +kernel, by decide, mt (i := 924) (by decide +kernel) rfl, mt (i := 10) (by decide +kernel) rfl⟩
theorem ok_X9_settle : mOk mX9_settle 1 := ⟨by decide +kernel, by decide, mt (i := 928) (by decide +kernel) rfl, mt (i := 10) (by decide +kernel) rfl⟩
theorem ok_X9_noLine : mOk mX9_noLine 2 := ⟨by decide +kernel, by decide, mt (i := 960) (by decide +kernel) rfl, mt (i := 10) (by decide +kernel) rfl⟩
theorem ok_X9_totalAt : mOk mX9_totalAt 2 := ⟨by decide +kernel, by decide, mt (i := 963) (by decide +kernel) rfl, mt (i := 10) (by decide +kernel) rfl⟩
theorem ok_X9_noCell : mOk mX9_noCell 1 := ⟨by decide +kernel, by decide, mt (i := 971) (by decide +kernel) rfl, mt (i := 10) (by decide +kernel) rfl⟩
theorem ok_X9_sum : mOk mX9_sum 3 := ⟨by decide +kernel, by decide, mt (i := 981) (by decide +kernel) rfl, mt (i := 10) (by decide +kernel) rfl⟩
theorem ok_X9_greatest : mOk mX9_greatest 2 := ⟨by decide +kernel, by decide, mt (i := 984) (by decide +kernel) rfl, mt (i := 10) (by decide +kernel) rfl⟩
theorem ok_X9_tested : mOk mX9_tested 1 := ⟨by decide +kernel, by decide, mt (i := 978) (by decide +kernel) rfl, mt (i := 10) (by decide +kernel) rfl⟩
theorem ok_X9_orderRows : mOk mX9_orderRows 0 := ⟨by decide +kernel, by decide, mt (i := 996) (by decide +kernel) rfl, mt (i := 10) (by decide +kernel) rfl⟩
theorem ok_X9_ahead : mOk mX9_ahead 1 := ⟨by decide +kernel, by decide, mt (i := 1000) (by decide +kernel) rfl, mt (i := 10) (by decide +kernel) rfl⟩
theorem ok_X9_fill : mOk mX9_fill 1 := ⟨by decide +kernel, by decide, mt (i := 992) (by decide +kernel) rfl, mt (i := 10) (by decide +kernel) rfl⟩
theorem ok_X9_isYes : mOk mX9_isYes 3 := ⟨by decide +kernel, by decide, mt (i := 1016) (by decide +kernel) rfl, mt (i := 10) (by decide +kernel) rfl⟩
theorem ok_X9_yesIn : mOk mX9_yesIn 2 := ⟨by decide +kernel, by decide, mt (i := 1024) (by decide +kernel) rfl, mt (i := 10) (by decide +kernel) rfl⟩
theorem ok_X9_sure : mOk mX9_sure 2 := ⟨by decide +kernel, by decide, mt (i := 1020) (by decide +kernel) rfl, mt (i := 10) (by decide +kernel) rfl⟩
theorem ok_X9_divisor : mOk mX9_divisor 2 := ⟨by decide +kernel, by decide, mt (i := 1034) (by decide +kernel) rfl, mt (i := 10) (by decide +kernel) rfl⟩
theorem ok_X9_fraction : mOk mX9_fraction 3 := ⟨by decide +kernel, by decide, mt (i := 1031) (by decide +kernel) rfl, mt (i := 10) (by decide +kernel) rfl⟩
theorem ok_X9_note : mOk mX9_note 0 := ⟨by decide +kernel, by decide, mt (i := 1050) (by decide +kernel) rfl, mt (i := 10) (by decide +kernel) rfl⟩
theorem ok_X9_bit : mOk mX9_bit 3 := ⟨by decide +kernel, by decide, mt (i := 1060) (by decide +kernel) rfl, mt (i := 10) (by decide +kernel) rfl⟩
theorem ok_X9_four : mOk mX9_four 5 := ⟨by decide +kernel, by decide, mt (i := 1057) (by decide +kernel) rfl, mt (i := 10) (by decide +kernel) rfl⟩
theorem ok_X9_countSwitches : mOk mX9_countSwitches 1 := ⟨by decide +kernel, by decide, mt (i := 1064) (by decide +kernel) rfl, mt (i := 10) (by decide +kernel) rfl⟩
theorem ok_X9_tooMany : mOk mX9_tooMany 3 := ⟨by decide +kernel, by decide, mt (i := 1075) (by decide +kernel) rfl, mt (i := 10) (by decide +kernel) rfl⟩
theorem ok_X9_areFour : mOk mX9_areFour 1 := ⟨by decide +kernel, by decide, mt (i := 1094) (by decide +kernel) rfl, mt (i := 10) (by decide +kernel) rfl⟩
theorem ok_X9_spread : mOk mX9_spread 0 := ⟨by decide +kernel, by decide, mt (i := 1091) (by decide +kernel) rfl, mt (i := 10) (by decide +kernel) rfl⟩
theorem ok_X9_tells : mOk mX9_tells 1 := ⟨by decide +kernel, by decide, mt (i := 1110) (by decide +kernel) rfl, mt (i := 10) (by decide +kernel) rfl⟩
theorem ok_X9_cellBit : mOk mX9_cellBit 1 := ⟨by decide +kernel, by decide, mt (i := 1114) (by decide +kernel) rfl, mt (i := 10) (by decide +kernel) rfl⟩
theorem ok_X9_findKey : mOk mX9_findKey 0 := ⟨by decide +kernel, by decide, mt (i := 1106) (by decide +kernel) rfl, mt (i := 10) (by decide +kernel) rfl⟩
theorem ok_X9_putSwitch : mOk mX9_putSwitch 4 := ⟨by decide +kernel, by decide, mt (i := 1131) (by decide +kernel) rfl, mt (i := 10) (by decide +kernel) rfl⟩
theorem ok_X9_putPin : mOk mX9_putPin 2 := ⟨by decide +kernel, by decide, mt (i := 1135) (by decide +kernel) rfl, mt (i := 10) (by decide +kernel) rfl⟩
theorem ok_X9_putTotal : mOk mX9_putTotal 3 := ⟨by decide +kernel, by decide, mt (i := 1139) (by decide +kernel) rfl, mt (i := 10) (by decide +kernel) rfl⟩
theorem ok_X9_longPower : mOk mX9_longPower 2 := ⟨by decide +kernel, by decide, mt (i := 1123) (by decide +kernel) rfl, mt (i := 10) (by decide +kernel) rfl⟩
theorem ok_X9_does : mOk mX9_does 1 := ⟨by decide +kernel, by decide, mt (i := 1127) (by decide +kernel) rfl, mt (i := 10) (by decide +kernel) rfl⟩
theorem ok_X9_agrees : mOk mX9_agrees 1 := ⟨by decide +kernel, by decide, mt (i := 1156) (by decide +kernel) rfl, mt (i := 10) (by decide +kernel) rfl⟩
theorem ok_X9_listPins : mOk mX9_listPins 0 := ⟨by decide +kernel, by decide, mt (i := 1168) (by decide +kernel) rfl, mt (i := 10) (by decide +kernel) rfl⟩
theorem ok_X9_holds : mOk mX9_holds 3 := ⟨by decide +kernel, by decide, mt (i := 1172) (by decide +kernel) rfl, mt (i := 10) (by decide +kernel) rfl⟩
theorem ok_X9_weigh : mOk mX9_weigh 0 := ⟨by decide +kernel, by decide, mt (i := 1164) (by decide +kernel) rfl, mt (i := 10) (by decide +kernel) rfl⟩
theorem ok_X9_factorial : mOk mX9_factorial 1 := ⟨by decide +kernel, by decide, mt (i := 1175) (by decide +kernel) rfl, mt (i := 10) (by decide +kernel) rfl⟩
theorem ok_X9_power : mOk mX9_power 2 := ⟨by decide +kernel, by decide, mt (i := 1183) (by decide +kernel) rfl, mt (i := 10) (by decide +kernel) rfl⟩
theorem ok_X9_openCells : mOk mX9_openCells 0 := ⟨by decide +kernel, by decide, mt (i := 1210) (by decide +kernel) rfl, mt (i := 10) (by decide +kernel) rfl⟩
