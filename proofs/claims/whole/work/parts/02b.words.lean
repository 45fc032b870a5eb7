theorem kc_J6_265 : Cond.constant RJ6 265 (1431655765) ∈ mTb := mt (i := 378) (by decide +kernel) rfl
theorem kc_J6_266 : Cond.constant RJ6 266 (858993459) ∈ mTb := mt (i := 379) (by decide +kernel) rfl
theorem kc_J6_267 : Cond.constant RJ6 267 (252645135) ∈ mTb := mt (i := 380) (by decide +kernel) rfl
theorem lk_X8_235 : Cond.methodLink RX8 235 yX8_bitOf ∈ mTb := mt (i := 474) (by decide +kernel) rfl
theorem sm_X8_bitOf : Cond.static yX8_bitOf ∈ mTb := mt (i := 395) (by decide +kernel) rfl
theorem lk_X8_290 : Cond.methodLink RX8 290 yX8_greatestDivisor ∈ mTb := mt (i := 516) (by decide +kernel) rfl
theorem sm_X8_greatestDivisor : Cond.static yX8_greatestDivisor ∈ mTb := mt (i := 517) (by decide +kernel) rfl
theorem lk_X8_155 : Cond.methodLink RX8 155 yJ9_max_7cf53 ∈ mTb := mt (i := 519) (by decide +kernel) rfl
theorem sm_J9_max_7cf53 : Cond.static yJ9_max_7cf53 ∈ mTb := mt (i := 520) (by decide +kernel) rfl
theorem fl_X6_9 : Cond.fieldLink RX6 9 "TwoViews$Sheet" "h" "I" ∈ mTb := mt (i := 34) (by decide +kernel) rfl
theorem fl_X6_15 : Cond.fieldLink RX6 15 "TwoViews$Sheet" "w" "I" ∈ mTb := mt (i := 40) (by decide +kernel) rfl
theorem fl_X6_18 : Cond.fieldLink RX6 18 "TwoViews$Sheet" "rowTotals" "[I" ∈ mTb := mt (i := 46) (by decide +kernel) rfl
theorem lk_X6_25 : Cond.methodLink RX6 25 arraycopyName ∈ mTb := mt (i := 409) (by decide +kernel) rfl
theorem ac_native : Cond.native arraycopyName ∈ mTb := mt (i := 411) (by decide +kernel) rfl
theorem ac_static : Cond.static arraycopyName ∈ mTb := mt (i := 410) (by decide +kernel) rfl
theorem ac_ini : Cond.initialized "java/lang/System" ∈ mTb := mt (i := 12) (by decide +kernel) rfl
theorem fl_X6_22 : Cond.fieldLink RX6 22 "TwoViews$Sheet" "columnTotals" "[I" ∈ mTb := mt (i := 47) (by decide +kernel) rfl
theorem fl_X6_31 : Cond.fieldLink RX6 31 "TwoViews$Sheet" "pinned" "I" ∈ mTb := mt (i := 49) (by decide +kernel) rfl
theorem fl_X6_34 : Cond.fieldLink RX6 34 "TwoViews$Sheet" "pinnedYes" "I" ∈ mTb := mt (i := 53) (by decide +kernel) rfl
theorem fl_X6_37 : Cond.fieldLink RX6 37 "TwoViews$Sheet" "plane" "I" ∈ mTb := mt (i := 58) (by decide +kernel) rfl
theorem lk_X6_40 : Cond.methodLink RX6 40 yX6_cells ∈ mTb := mt (i := 429) (by decide +kernel) rfl
theorem im_X6_cells : Cond.instanceMethod yX6_cells ∈ mTb := mt (i := 382) (by decide +kernel) rfl
theorem se_X6_cells : Cond.selects RX6 yX6_cells yX6_cells ∈ mTb := mt (i := 383) (by decide +kernel) rfl
theorem lk_X6_44 : Cond.methodLink RX6 44 yX6_totalCount ∈ mTb := mt (i := 247) (by decide +kernel) rfl
theorem im_X6_totalCount : Cond.instanceMethod yX6_totalCount ∈ mTb := mt (i := 248) (by decide +kernel) rfl
theorem se_X6_totalCount : Cond.selects RX6 yX6_totalCount yX6_totalCount ∈ mTb := mt (i := 249) (by decide +kernel) rfl
theorem lk_X6_48 : Cond.methodLink RX6 48 yX6_totalOf ∈ mTb := mt (i := 251) (by decide +kernel) rfl
theorem im_X6_totalOf : Cond.instanceMethod yX6_totalOf ∈ mTb := mt (i := 252) (by decide +kernel) rfl
theorem se_X6_totalOf : Cond.selects RX6 yX6_totalOf yX6_totalOf ∈ mTb := mt (i := 253) (by decide +kernel) rfl
theorem kl_X6_52 : Cond.constantLong RX6 52 (8) ∈ mTb := mt (i := 246) (by decide +kernel) rfl
theorem ln_X6_54 : Cond.methodLinkNest RX6 54 yX8_bitOf "TwoViews" ∈ tables_1 := List.mem_of_getElem? (i := 394) (by decide +kernel)
theorem lk_X6_57 : Cond.methodLink RX6 57 yJ6_bitCount_0f7a4 ∈ mTb := mt (i := 375) (by decide +kernel) rfl
theorem sm_J6_bitCount_0f7a4 : Cond.static yJ6_bitCount_0f7a4 ∈ mTb := mt (i := 376) (by decide +kernel) rfl
theorem lk_X6_62 : Cond.methodLink RX6 62 yX6_columnsOf ∈ mTb := mt (i := 564) (by decide +kernel) rfl
theorem im_X6_columnsOf : Cond.instanceMethod yX6_columnsOf ∈ mTb := mt (i := 386) (by decide +kernel) rfl
theorem se_X6_columnsOf : Cond.selects RX6 yX6_columnsOf yX6_columnsOf ∈ mTb := mt (i := 387) (by decide +kernel) rfl
theorem lk_X6_65 : Cond.methodLink RX6 65 yX6_giving ∈ mTb := mt (i := 560) (by decide +kernel) rfl
theorem im_X6_giving : Cond.instanceMethod yX6_giving ∈ mTb := mt (i := 561) (by decide +kernel) rfl
theorem se_X6_giving : Cond.selects RX6 yX6_giving yX6_giving ∈ mTb := mt (i := 562) (by decide +kernel) rfl
theorem ln_X6_69 : Cond.methodLinkNest RX6 69 yX8_columnBit "TwoViews" ∈ tables_1 := List.mem_of_getElem? (i := 565) (by decide +kernel)
theorem sm_X8_columnBit : Cond.static yX8_columnBit ∈ mTb := mt (i := 260) (by decide +kernel) rfl
theorem lk_X6_72 : Cond.methodLink RX6 72 yX6_bitAt ∈ mTb := mt (i := 574) (by decide +kernel) rfl
theorem im_X6_bitAt : Cond.instanceMethod yX6_bitAt ∈ mTb := mt (i := 391) (by decide +kernel) rfl
theorem se_X6_bitAt : Cond.selects RX6 yX6_bitAt yX6_bitAt ∈ mTb := mt (i := 392) (by decide +kernel) rfl
theorem lk_X6_75 : Cond.methodLink RX6 75 yX6_firstColumn ∈ mTb := mt (i := 617) (by decide +kernel) rfl
theorem im_X6_firstColumn : Cond.instanceMethod yX6_firstColumn ∈ mTb := mt (i := 619) (by decide +kernel) rfl
theorem se_X6_firstColumn : Cond.selects RX6 yX6_firstColumn yX6_firstColumn ∈ mTb := ms (i := 7) (by decide +kernel) rfl
theorem fl_X4_22 : Cond.fieldLink RX4 22 "TwoViews$Letters" "length" "I" ∈ mTb := mt (i := 145) (by decide +kernel) rfl
theorem fl_X4_9 : Cond.fieldLink RX4 9 "TwoViews$Letters" "letters" "[I" ∈ mTb := mt (i := 144) (by decide +kernel) rfl
theorem lk_X4_26 : Cond.methodLink RX4 26 yX4_letterAt ∈ mTb := mt (i := 350) (by decide +kernel) rfl
theorem im_X4_letterAt : Cond.instanceMethod yX4_letterAt ∈ mTb := mt (i := 352) (by decide +kernel) rfl
theorem se_X4_letterAt : Cond.selects RX4 yX4_letterAt yX4_letterAt ∈ mTb := ms (i := 2) (by decide +kernel) rfl
theorem fl_X4_18 : Cond.fieldLink RX4 18 "TwoViews$Letters" "draft" "LTwoViews$Sheet;" ∈ mTb := mt (i := 147) (by decide +kernel) rfl
theorem fl_X4_53 : Cond.fieldLink RX4 53 "TwoViews$Sheet" "pinned" "I" ∈ mTb := mt (i := 50) (by decide +kernel) rfl
theorem fl_X4_56 : Cond.fieldLink RX4 56 "TwoViews$Sheet" "pinnedYes" "I" ∈ mTb := mt (i := 55) (by decide +kernel) rfl
theorem lk_X4_59 : Cond.methodLink RX4 59 yX6_pinCount ∈ mTb := mt (i := 371) (by decide +kernel) rfl
theorem im_X6_pinCount : Cond.instanceMethod yX6_pinCount ∈ mTb := mt (i := 372) (by decide +kernel) rfl
theorem se_X6_pinCount : Cond.selects RX6 yX6_pinCount yX6_pinCount ∈ mTb := mt (i := 373) (by decide +kernel) rfl
theorem lk_X4_63 : Cond.methodLink RX4 63 yX6_cells ∈ mTb := mt (i := 381) (by decide +kernel) rfl
theorem fl_X4_34 : Cond.fieldLink RX4 34 "TwoViews$Sheet" "h" "I" ∈ mTb := mt (i := 36) (by decide +kernel) rfl
theorem lk_X4_30 : Cond.methodLink RX4 30 yX4_figureAt ∈ mTb := mt (i := 354) (by decide +kernel) rfl
theorem im_X4_figureAt : Cond.instanceMethod yX4_figureAt ∈ mTb := mt (i := 356) (by decide +kernel) rfl
theorem se_X4_figureAt : Cond.selects RX4 yX4_figureAt yX4_figureAt ∈ mTb := ms (i := 3) (by decide +kernel) rfl
theorem lk_X4_66 : Cond.methodLink RX4 66 yX6_columnsOf ∈ mTb := mt (i := 385) (by decide +kernel) rfl
theorem lk_X4_70 : Cond.methodLink RX4 70 yJ6_bitCount_0f7a4 ∈ mTb := mt (i := 389) (by decide +kernel) rfl
theorem fl_X4_37 : Cond.fieldLink RX4 37 "TwoViews$Sheet" "w" "I" ∈ mTb := mt (i := 43) (by decide +kernel) rfl
theorem lk_X4_75 : Cond.methodLink RX4 75 yX6_bitAt ∈ mTb := mt (i := 390) (by decide +kernel) rfl
theorem lk_X4_78 : Cond.methodLink RX4 78 yX6_putPin ∈ mTb := mt (i := 397) (by decide +kernel) rfl
theorem im_X6_putPin : Cond.instanceMethod yX6_putPin ∈ mTb := mt (i := 398) (by decide +kernel) rfl
theorem se_X6_putPin : Cond.selects RX6 yX6_putPin yX6_putPin ∈ mTb := mt (i := 399) (by decide +kernel) rfl
theorem lk_X4_50 : Cond.methodLink RX4 50 yX4_readPins ∈ mTb := mt (i := 367) (by decide +kernel) rfl
theorem im_X4_readPins : Cond.instanceMethod yX4_readPins ∈ mTb := mt (i := 369) (by decide +kernel) rfl
theorem se_X4_readPins : Cond.selects RX4 yX4_readPins yX4_readPins ∈ mTb := ms (i := 4) (by decide +kernel) rfl
theorem lk_X4_40 : Cond.methodLink RX4 40 yX6_totalCount ∈ mTb := mt (i := 358) (by decide +kernel) rfl
theorem lk_X4_43 : Cond.methodLink RX4 43 yX6_mostTotal ∈ mTb := mt (i := 359) (by decide +kernel) rfl
theorem im_X6_mostTotal : Cond.instanceMethod yX6_mostTotal ∈ mTb := mt (i := 360) (by decide +kernel) rfl
theorem se_X6_mostTotal : Cond.selects RX6 yX6_mostTotal yX6_mostTotal ∈ mTb := mt (i := 361) (by decide +kernel) rfl
theorem lk_X4_46 : Cond.methodLink RX4 46 yX6_putTotal ∈ mTb := mt (i := 363) (by decide +kernel) rfl
theorem im_X6_putTotal : Cond.instanceMethod yX6_putTotal ∈ mTb := mt (i := 364) (by decide +kernel) rfl
theorem se_X6_putTotal : Cond.selects RX6 yX6_putTotal yX6_putTotal ∈ mTb := mt (i := 365) (by decide +kernel) rfl
theorem fl_X1_61 : Cond.fieldLink RX1 61 "TwoViews$Sheet" "w" "I" ∈ mTb := mt (i := 41) (by decide +kernel) rfl
theorem lk_X1_64 : Cond.methodLink RX1 64 yX6_totalOf ∈ mTb := mt (i := 258) (by decide +kernel) rfl
theorem ln_X1_68 : Cond.methodLinkNest RX1 68 yX8_columnBit "TwoViews" ∈ tables_1 := List.mem_of_getElem? (i := 259) (by decide +kernel)
theorem fl_X1_43 : Cond.fieldLink RX1 43 "TwoViews$Answers" "unpinnedSize" "I" ∈ mTb := mt (i := 85) (by decide +kernel) rfl
theorem fl_X1_9 : Cond.fieldLink RX1 9 "TwoViews$Answers" "unpinned" "[I" ∈ mTb := mt (i := 83) (by decide +kernel) rfl
theorem lk_X1_72 : Cond.methodLink RX1 72 yX6_hasRow ∈ mTb := mt (i := 265) (by decide +kernel) rfl
theorem im_X6_hasRow : Cond.instanceMethod yX6_hasRow ∈ mTb := mt (i := 266) (by decide +kernel) rfl
theorem se_X6_hasRow : Cond.selects RX6 yX6_hasRow yX6_hasRow ∈ mTb := mt (i := 267) (by decide +kernel) rfl
theorem fl_X1_80 : Cond.fieldLink RX1 80 "TwoViews$Sheet" "h" "I" ∈ mTb := mt (i := 37) (by decide +kernel) rfl
theorem fl_X1_83 : Cond.fieldLink RX1 83 "TwoViews$Answers" "FIRST_WITH_YES" "[I" ∈ mTb := mt (i := 273) (by decide +kernel) rfl
theorem fl_X1_86 : Cond.fieldLink RX1 86 "TwoViews$Answers" "ROWS_BY_YES" "[I" ∈ mTb := mt (i := 275) (by decide +kernel) rfl
theorem lk_X1_89 : Cond.methodLink RX1 89 yX6_placed ∈ mTb := mt (i := 277) (by decide +kernel) rfl
theorem im_X6_placed : Cond.instanceMethod yX6_placed ∈ mTb := mt (i := 278) (by decide +kernel) rfl
theorem se_X6_placed : Cond.selects RX6 yX6_placed yX6_placed ∈ mTb := mt (i := 279) (by decide +kernel) rfl
theorem lk_X1_50 : Cond.methodLink RX1 50 yX1_addFrom ∈ mTb := mt (i := 262) (by decide +kernel) rfl
theorem sm_X1_addFrom : Cond.static yX1_addFrom ∈ mTb := mt (i := 263) (by decide +kernel) rfl
theorem lk_X1_76 : Cond.methodLink RX1 76 yX1_addUnpinned ∈ mTb := mt (i := 269) (by decide +kernel) rfl
theorem im_X1_addUnpinned : Cond.instanceMethod yX1_addUnpinned ∈ mTb := mt (i := 271) (by decide +kernel) rfl
theorem se_X1_addUnpinned : Cond.selects RX1 yX1_addUnpinned yX1_addUnpinned ∈ mTb := ms (i := 0) (by decide +kernel) rfl
theorem fl_X1_92 : Cond.fieldLink RX1 92 "TwoViews$Answers" "size" "I" ∈ mTb := mt (i := 94) (by decide +kernel) rfl
theorem fl_X1_95 : Cond.fieldLink RX1 95 "TwoViews$Answers" "always" "I" ∈ mTb := mt (i := 97) (by decide +kernel) rfl
theorem fl_X1_98 : Cond.fieldLink RX1 98 "TwoViews$Answers" "ever" "I" ∈ mTb := mt (i := 98) (by decide +kernel) rfl
theorem fl_X1_30 : Cond.fieldLink RX1 30 "TwoViews$Sheet" "pinned" "I" ∈ mTb := mt (i := 48) (by decide +kernel) rfl
theorem fl_X1_37 : Cond.fieldLink RX1 37 "TwoViews$Sheet" "pinnedYes" "I" ∈ mTb := mt (i := 52) (by decide +kernel) rfl
theorem fl_X1_15 : Cond.fieldLink RX1 15 "TwoViews$Answers" "planes" "[I" ∈ mTb := mt (i := 87) (by decide +kernel) rfl
theorem lk_X1_24 : Cond.methodLink RX1 24 yX6_totalsAsNumber ∈ mTb := mt (i := 242) (by decide +kernel) rfl
theorem im_X6_totalsAsNumber : Cond.instanceMethod yX6_totalsAsNumber ∈ mTb := mt (i := 243) (by decide +kernel) rfl
theorem se_X6_totalsAsNumber : Cond.selects RX6 yX6_totalsAsNumber yX6_totalsAsNumber ∈ mTb := mt (i := 244) (by decide +kernel) rfl
theorem fl_X1_20 : Cond.fieldLink RX1 20 "TwoViews$Answers" "listedTotals" "J" ∈ mTb := mt (i := 99) (by decide +kernel) rfl
theorem lk_X1_54 : Cond.methodLink RX1 54 yX1_narrowTo ∈ mTb := mt (i := 281) (by decide +kernel) rfl
theorem im_X1_narrowTo : Cond.instanceMethod yX1_narrowTo ∈ mTb := mt (i := 283) (by decide +kernel) rfl
theorem se_X1_narrowTo : Cond.selects RX1 yX1_narrowTo yX1_narrowTo ∈ mTb := ms (i := 1) (by decide +kernel) rfl
theorem fl_X1_34 : Cond.fieldLink RX1 34 "TwoViews$Answers" "listedPinned" "I" ∈ mTb := mt (i := 100) (by decide +kernel) rfl
theorem fl_X1_40 : Cond.fieldLink RX1 40 "TwoViews$Answers" "listedYes" "I" ∈ mTb := mt (i := 101) (by decide +kernel) rfl
theorem fl_X1_58 : Cond.fieldLink RX1 58 "TwoViews$Answers" "edition" "I" ∈ mTb := mt (i := 96) (by decide +kernel) rfl
theorem lk_X1_46 : Cond.methodLink RX1 46 yX1_columnsWith ∈ mTb := mt (i := 255) (by decide +kernel) rfl
theorem sm_X1_columnsWith : Cond.static yX1_columnsWith ∈ mTb := mt (i := 256) (by decide +kernel) rfl
theorem lk_X1_101 : Cond.methodLink RX1 101 yX1_openCells ∈ mTb := mt (i := 499) (by decide +kernel) rfl
theorem im_X1_openCells : Cond.instanceMethod yX1_openCells ∈ mTb := mt (i := 500) (by decide +kernel) rfl
theorem se_X1_openCells : Cond.selects RX1 yX1_openCells yX1_openCells ∈ mTb := mt (i := 501) (by decide +kernel) rfl
theorem ln_X1_105 : Cond.methodLinkNest RX1 105 yX8_yesIn "TwoViews" ∈ tables_1 := List.mem_of_getElem? (i := 503) (by decide +kernel)
theorem sm_X8_yesIn : Cond.static yX8_yesIn ∈ mTb := mt (i := 472) (by decide +kernel) rfl
theorem ln_X1_108 : Cond.methodLinkNest RX1 108 yX8_bitOf "TwoViews" ∈ tables_1 := List.mem_of_getElem? (i := 508) (by decide +kernel)
theorem fl_X0_11 : Cond.fieldLink RX0 11 "TwoViews$Acts" "before" "[LTwoViews$Sheet;" ∈ mTb := mt (i := 165) (by decide +kernel) rfl
theorem fl_X0_18 : Cond.fieldLink RX0 18 "TwoViews$Acts" "next" "I" ∈ mTb := mt (i := 166) (by decide +kernel) rfl
theorem lk_X0_22 : Cond.methodLink RX0 22 yX6_become ∈ mTb := mt (i := 540) (by decide +kernel) rfl
theorem im_X6_become : Cond.instanceMethod yX6_become ∈ mTb := mt (i := 406) (by decide +kernel) rfl
theorem se_X6_become : Cond.selects RX6 yX6_become yX6_become ∈ mTb := mt (i := 407) (by decide +kernel) rfl
theorem fl_X0_26 : Cond.fieldLink RX0 26 "TwoViews$Acts" "length" "I" ∈ mTb := mt (i := 167) (by decide +kernel) rfl
theorem lk_X0_29 : Cond.methodLink RX0 29 yJ9_min_7cf53 ∈ mTb := mt (i := 541) (by decide +kernel) rfl
theorem sm_J9_min_7cf53 : Cond.static yJ9_min_7cf53 ∈ mTb := mt (i := 455) (by decide +kernel) rfl
theorem fl_X3_28 : Cond.fieldLink RX3 28 "TwoViews$Sheet" "h" "I" ∈ mTb := mt (i := 35) (by decide +kernel) rfl
theorem fl_X3_9 : Cond.fieldLink RX3 9 "TwoViews$Filling" "order" "[I" ∈ mTb := mt (i := 182) (by decide +kernel) rfl
theorem lk_X3_32 : Cond.methodLink RX3 32 yX6_totalOf ∈ mTb := mt (i := 450) (by decide +kernel) rfl
theorem fl_X3_40 : Cond.fieldLink RX3 40 "TwoViews$Sheet" "w" "I" ∈ mTb := mt (i := 42) (by decide +kernel) rfl
theorem lk_X3_43 : Cond.methodLink RX3 43 yJ9_min_7cf53 ∈ mTb := mt (i := 454) (by decide +kernel) rfl
theorem lk_X3_18 : Cond.methodLink RX3 18 yX6_together ∈ mTb := mt (i := 442) (by decide +kernel) rfl
theorem im_X6_together : Cond.instanceMethod yX6_together ∈ mTb := mt (i := 443) (by decide +kernel) rfl
theorem se_X6_together : Cond.selects RX6 yX6_together yX6_together ∈ mTb := mt (i := 444) (by decide +kernel) rfl
theorem lk_X3_24 : Cond.methodLink RX3 24 yX3_orderRows ∈ mTb := mt (i := 446) (by decide +kernel) rfl
theorem im_X3_orderRows : Cond.instanceMethod yX3_orderRows ∈ mTb := mt (i := 448) (by decide +kernel) rfl
theorem se_X3_orderRows : Cond.selects RX3 yX3_orderRows yX3_orderRows ∈ mTb := ms (i := 5) (by decide +kernel) rfl
theorem lk_X3_36 : Cond.methodLink RX3 36 yX3_roomOf ∈ mTb := mt (i := 451) (by decide +kernel) rfl
theorem sm_X3_roomOf : Cond.static yX3_roomOf ∈ mTb := mt (i := 452) (by decide +kernel) rfl
theorem ln_X3_54 : Cond.methodLinkNest RX3 54 yX8_columnBit "TwoViews" ∈ tables_1 := List.mem_of_getElem? (i := 469) (by decide +kernel)
theorem fl_X3_15 : Cond.fieldLink RX3 15 "TwoViews$Filling" "lack" "[I" ∈ mTb := mt (i := 183) (by decide +kernel) rfl
theorem lk_X3_48 : Cond.methodLink RX3 48 yX3_chooseColumns ∈ mTb := mt (i := 465) (by decide +kernel) rfl
theorem im_X3_chooseColumns : Cond.instanceMethod yX3_chooseColumns ∈ mTb := mt (i := 467) (by decide +kernel) rfl
theorem se_X3_chooseColumns : Cond.selects RX3 yX3_chooseColumns yX3_chooseColumns ∈ mTb := ms (i := 6) (by decide +kernel) rfl
theorem lk_X3_51 : Cond.methodLink RX3 51 yX6_placed ∈ mTb := mt (i := 470) (by decide +kernel) rfl
theorem fl_X2_21 : Cond.fieldLink RX2 21 "TwoViews$Board" "list" "LTwoViews$Answers;" ∈ mTb := mt (i := 127) (by decide +kernel) rfl
theorem fl_X2_12 : Cond.fieldLink RX2 12 "TwoViews$Board" "sheet" "LTwoViews$Sheet;" ∈ mTb := mt (i := 123) (by decide +kernel) rfl
theorem lk_X2_25 : Cond.methodLink RX2 25 yX1_listFor ∈ mTb := mt (i := 238) (by decide +kernel) rfl
theorem im_X1_listFor : Cond.instanceMethod yX1_listFor ∈ mTb := mt (i := 239) (by decide +kernel) rfl
theorem se_X1_listFor : Cond.selects RX1 yX1_listFor yX1_listFor ∈ mTb := mt (i := 240) (by decide +kernel) rfl
theorem fl_X2_29 : Cond.fieldLink RX2 29 "TwoViews$Sheet" "plane" "I" ∈ mTb := mt (i := 56) (by decide +kernel) rfl
theorem lk_X2_33 : Cond.methodLink RX2 33 yX1_numberOf ∈ mTb := mt (i := 285) (by decide +kernel) rfl
theorem im_X1_numberOf : Cond.instanceMethod yX1_numberOf ∈ mTb := mt (i := 286) (by decide +kernel) rfl
theorem se_X1_numberOf : Cond.selects RX1 yX1_numberOf yX1_numberOf ∈ mTb := mt (i := 287) (by decide +kernel) rfl
theorem fl_X2_37 : Cond.fieldLink RX2 37 "TwoViews$Answers" "size" "I" ∈ mTb := mt (i := 91) (by decide +kernel) rfl
theorem fl_X2_40 : Cond.fieldLink RX2 40 "TwoViews$Answers" "planes" "[I" ∈ mTb := mt (i := 88) (by decide +kernel) rfl
theorem ln_X2_44 : Cond.methodLinkNest RX2 44 yX8_yesIn "TwoViews" ∈ tables_1 := List.mem_of_getElem? (i := 494) (by decide +kernel)
theorem lk_X2_48 : Cond.methodLink RX2 48 yX6_hasRow ∈ mTb := mt (i := 551) (by decide +kernel) rfl
theorem lk_X2_52 : Cond.methodLink RX2 52 yX6_hasColumn ∈ mTb := mt (i := 552) (by decide +kernel) rfl
theorem im_X6_hasColumn : Cond.instanceMethod yX6_hasColumn ∈ mTb := mt (i := 553) (by decide +kernel) rfl
theorem se_X6_hasColumn : Cond.selects RX6 yX6_hasColumn yX6_hasColumn ∈ mTb := mt (i := 554) (by decide +kernel) rfl
theorem lk_X2_55 : Cond.methodLink RX2 55 yX6_isSwitch ∈ mTb := mt (i := 556) (by decide +kernel) rfl
theorem im_X6_isSwitch : Cond.instanceMethod yX6_isSwitch ∈ mTb := mt (i := 557) (by decide +kernel) rfl
theorem se_X6_isSwitch : Cond.selects RX6 yX6_isSwitch yX6_isSwitch ∈ mTb := mt (i := 558) (by decide +kernel) rfl
theorem lk_X2_59 : Cond.methodLink RX2 59 yX6_switched ∈ mTb := mt (i := 570) (by decide +kernel) rfl
theorem im_X6_switched : Cond.instanceMethod yX6_switched ∈ mTb := mt (i := 571) (by decide +kernel) rfl
theorem se_X6_switched : Cond.selects RX6 yX6_switched yX6_switched ∈ mTb := mt (i := 572) (by decide +kernel) rfl
theorem lk_X2_63 : Cond.methodLink RX2 63 yX6_hasTotal ∈ mTb := mt (i := 587) (by decide +kernel) rfl
theorem im_X6_hasTotal : Cond.instanceMethod yX6_hasTotal ∈ mTb := mt (i := 417) (by decide +kernel) rfl
theorem se_X6_hasTotal : Cond.selects RX6 yX6_hasTotal yX6_hasTotal ∈ mTb := mt (i := 418) (by decide +kernel) rfl
theorem lk_X2_67 : Cond.methodLink RX2 67 yX6_mostTotal ∈ mTb := mt (i := 588) (by decide +kernel) rfl
theorem lk_X2_70 : Cond.methodLink RX2 70 yX6_hasCell ∈ mTb := mt (i := 597) (by decide +kernel) rfl
theorem im_X6_hasCell : Cond.instanceMethod yX6_hasCell ∈ mTb := mt (i := 426) (by decide +kernel) rfl
theorem se_X6_hasCell : Cond.selects RX6 yX6_hasCell yX6_hasCell ∈ mTb := mt (i := 427) (by decide +kernel) rfl
theorem lk_X2_76 : Cond.methodLink RX2 76 yX6_pinCount ∈ mTb := mt (i := 599) (by decide +kernel) rfl
theorem lk_X2_73 : Cond.methodLink RX2 73 yX6_pinOf ∈ mTb := mt (i := 598) (by decide +kernel) rfl
theorem im_X6_pinOf : Cond.instanceMethod yX6_pinOf ∈ mTb := mt (i := 431) (by decide +kernel) rfl
theorem se_X6_pinOf : Cond.selects RX6 yX6_pinOf yX6_pinOf ∈ mTb := mt (i := 432) (by decide +kernel) rfl
theorem lk_X2_97 : Cond.methodLink RX2 97 yX2_switchRefusal ∈ mTb := mt (i := 692) (by decide +kernel) rfl
theorem im_X2_switchRefusal : Cond.instanceMethod yX2_switchRefusal ∈ mTb := mt (i := 548) (by decide +kernel) rfl
theorem se_X2_switchRefusal : Cond.selects RX2 yX2_switchRefusal yX2_switchRefusal ∈ mTb := mt (i := 549) (by decide +kernel) rfl
theorem lk_X2_101 : Cond.methodLink RX2 101 yX2_makeSwitch ∈ mTb := mt (i := 693) (by decide +kernel) rfl
theorem im_X2_makeSwitch : Cond.instanceMethod yX2_makeSwitch ∈ mTb := mt (i := 567) (by decide +kernel) rfl
theorem se_X2_makeSwitch : Cond.selects RX2 yX2_makeSwitch yX2_makeSwitch ∈ mTb := mt (i := 568) (by decide +kernel) rfl
theorem lk_X2_105 : Cond.methodLink RX2 105 yX2_pinRefusal ∈ mTb := mt (i := 698) (by decide +kernel) rfl
theorem im_X2_pinRefusal : Cond.instanceMethod yX2_pinRefusal ∈ mTb := mt (i := 594) (by decide +kernel) rfl
theorem se_X2_pinRefusal : Cond.selects RX2 yX2_pinRefusal yX2_pinRefusal ∈ mTb := mt (i := 595) (by decide +kernel) rfl
theorem lk_X2_108 : Cond.methodLink RX2 108 yX6_putPin ∈ mTb := mt (i := 699) (by decide +kernel) rfl
theorem lk_X2_112 : Cond.methodLink RX2 112 yX2_settle ∈ mTb := mt (i := 700) (by decide +kernel) rfl
theorem im_X2_settle : Cond.instanceMethod yX2_settle ∈ mTb := mt (i := 235) (by decide +kernel) rfl
theorem se_X2_settle : Cond.selects RX2 yX2_settle yX2_settle ∈ mTb := mt (i := 236) (by decide +kernel) rfl
theorem lk_X2_115 : Cond.methodLink RX2 115 yX2_totalRefusal ∈ mTb := mt (i := 705) (by decide +kernel) rfl
theorem im_X2_totalRefusal : Cond.instanceMethod yX2_totalRefusal ∈ mTb := mt (i := 584) (by decide +kernel) rfl
theorem se_X2_totalRefusal : Cond.selects RX2 yX2_totalRefusal yX2_totalRefusal ∈ mTb := mt (i := 585) (by decide +kernel) rfl
theorem lk_X2_119 : Cond.methodLink RX2 119 yX6_putTotal ∈ mTb := mt (i := 706) (by decide +kernel) rfl
theorem lk_X2_80 : Cond.methodLink RX2 80 yX2_takesSwitch ∈ mTb := mt (i := 688) (by decide +kernel) rfl
theorem im_X2_takesSwitch : Cond.instanceMethod yX2_takesSwitch ∈ mTb := mt (i := 690) (by decide +kernel) rfl
theorem se_X2_takesSwitch : Cond.selects RX2 yX2_takesSwitch yX2_takesSwitch ∈ mTb := ms (i := 14) (by decide +kernel) rfl
theorem lk_X2_84 : Cond.methodLink RX2 84 yX2_takesPin ∈ mTb := mt (i := 694) (by decide +kernel) rfl
theorem im_X2_takesPin : Cond.instanceMethod yX2_takesPin ∈ mTb := mt (i := 696) (by decide +kernel) rfl
theorem se_X2_takesPin : Cond.selects RX2 yX2_takesPin yX2_takesPin ∈ mTb := ms (i := 15) (by decide +kernel) rfl
theorem lk_X2_87 : Cond.methodLink RX2 87 yX2_takesTotal ∈ mTb := mt (i := 701) (by decide +kernel) rfl
theorem im_X2_takesTotal : Cond.instanceMethod yX2_takesTotal ∈ mTb := mt (i := 703) (by decide +kernel) rfl
theorem se_X2_takesTotal : Cond.selects RX2 yX2_takesTotal yX2_takesTotal ∈ mTb := ms (i := 16) (by decide +kernel) rfl
theorem lk_X2_91 : Cond.methodLink RX2 91 yX2_planeAt ∈ mTb := mt (i := 707) (by decide +kernel) rfl
theorem im_X2_planeAt : Cond.instanceMethod yX2_planeAt ∈ mTb := mt (i := 491) (by decide +kernel) rfl
theorem se_X2_planeAt : Cond.selects RX2 yX2_planeAt yX2_planeAt ∈ mTb := mt (i := 492) (by decide +kernel) rfl
theorem lk_X2_94 : Cond.methodLink RX2 94 yX1_sureAt ∈ mTb := mt (i := 708) (by decide +kernel) rfl
theorem im_X1_sureAt : Cond.instanceMethod yX1_sureAt ∈ mTb := mt (i := 496) (by decide +kernel) rfl
theorem se_X1_sureAt : Cond.selects RX1 yX1_sureAt yX1_sureAt ∈ mTb := mt (i := 497) (by decide +kernel) rfl
theorem lk_X2_135 : Cond.methodLink RX2 135 yX6_cells ∈ mTb := mt (i := 672) (by decide +kernel) rfl
theorem ln_X2_138 : Cond.methodLinkNest RX2 138 yX8_bitOf "TwoViews" ∈ tables_1 := List.mem_of_getElem? (i := 673) (by decide +kernel)
theorem lk_X2_123 : Cond.methodLink RX2 123 yX2_tellingApart ∈ mTb := mt (i := 661) (by decide +kernel) rfl
theorem im_X2_tellingApart : Cond.instanceMethod yX2_tellingApart ∈ mTb := mt (i := 663) (by decide +kernel) rfl
theorem se_X2_tellingApart : Cond.selects RX2 yX2_tellingApart yX2_tellingApart ∈ mTb := ms (i := 11) (by decide +kernel) rfl
theorem ln_X2_126 : Cond.methodLinkNest RX2 126 yX8_leastCell "TwoViews" ∈ tables_1 := List.mem_of_getElem? (i := 665) (by decide +kernel)
theorem sm_X8_leastCell : Cond.static yX8_leastCell ∈ mTb := mt (i := 666) (by decide +kernel) rfl
theorem lk_X2_129 : Cond.methodLink RX2 129 yX2_findKeyOfTwo ∈ mTb := mt (i := 668) (by decide +kernel) rfl
theorem im_X2_findKeyOfTwo : Cond.instanceMethod yX2_findKeyOfTwo ∈ mTb := mt (i := 670) (by decide +kernel) rfl
theorem se_X2_findKeyOfTwo : Cond.selects RX2 yX2_findKeyOfTwo yX2_findKeyOfTwo ∈ mTb := ms (i := 12) (by decide +kernel) rfl
theorem lk_X2_132 : Cond.methodLink RX2 132 yX2_findKeyOfThree ∈ mTb := mt (i := 674) (by decide +kernel) rfl
theorem im_X2_findKeyOfThree : Cond.instanceMethod yX2_findKeyOfThree ∈ mTb := mt (i := 676) (by decide +kernel) rfl
theorem se_X2_findKeyOfThree : Cond.selects RX2 yX2_findKeyOfThree yX2_findKeyOfThree ∈ mTb := ms (i := 13) (by decide +kernel) rfl
theorem fl_X7_25 : Cond.fieldLink RX7 25 "TwoViews$Board" "list" "LTwoViews$Answers;" ∈ mTb := mt (i := 128) (by decide +kernel) rfl
theorem lk_X7_59 : Cond.methodLink RX7 59 yX1_numberOf ∈ mTb := mt (i := 633) (by decide +kernel) rfl
theorem fl_X7_9 : Cond.fieldLink RX7 9 "TwoViews$Walk" "steps" "[I" ∈ mTb := mt (i := 195) (by decide +kernel) rfl
theorem fl_X7_45 : Cond.fieldLink RX7 45 "TwoViews$Walk" "found" "I" ∈ mTb := mt (i := 197) (by decide +kernel) rfl
theorem fl_X7_15 : Cond.fieldLink RX7 15 "TwoViews$Walk" "queue" "[I" ∈ mTb := mt (i := 196) (by decide +kernel) rfl
theorem fl_X7_36 : Cond.fieldLink RX7 36 "TwoViews$Board" "sheet" "LTwoViews$Sheet;" ∈ mTb := mt (i := 125) (by decide +kernel) rfl
theorem fl_X7_70 : Cond.fieldLink RX7 70 "TwoViews$Answers" "planes" "[I" ∈ mTb := mt (i := 89) (by decide +kernel) rfl
theorem lk_X7_73 : Cond.methodLink RX7 73 yX6_giving ∈ mTb := mt (i := 642) (by decide +kernel) rfl
theorem fl_X7_77 : Cond.fieldLink RX7 77 "TwoViews$Sheet" "w" "I" ∈ mTb := mt (i := 44) (by decide +kernel) rfl
theorem ln_X7_80 : Cond.methodLinkNest RX7 80 yX8_columnBit "TwoViews" ∈ tables_1 := List.mem_of_getElem? (i := 643) (by decide +kernel)
theorem lk_X7_83 : Cond.methodLink RX7 83 yX6_switched ∈ mTb := mt (i := 644) (by decide +kernel) rfl
theorem lk_X7_48 : Cond.methodLink RX7 48 yX7_reach ∈ mTb := mt (i := 629) (by decide +kernel) rfl
theorem im_X7_reach : Cond.instanceMethod yX7_reach ∈ mTb := mt (i := 631) (by decide +kernel) rfl
theorem se_X7_reach : Cond.selects RX7 yX7_reach yX7_reach ∈ mTb := ms (i := 8) (by decide +kernel) rfl
theorem fl_X7_63 : Cond.fieldLink RX7 63 "TwoViews$Sheet" "h" "I" ∈ mTb := mt (i := 38) (by decide +kernel) rfl
theorem lk_X7_66 : Cond.methodLink RX7 66 yX7_reachByRows ∈ mTb := mt (i := 638) (by decide +kernel) rfl
theorem im_X7_reachByRows : Cond.instanceMethod yX7_reachByRows ∈ mTb := mt (i := 640) (by decide +kernel) rfl
theorem se_X7_reachByRows : Cond.selects RX7 yX7_reachByRows yX7_reachByRows ∈ mTb := ms (i := 10) (by decide +kernel) rfl
theorem fl_X7_18 : Cond.fieldLink RX7 18 "TwoViews$Walk" "walkedEdition" "I" ∈ mTb := mt (i := 199) (by decide +kernel) rfl
theorem fl_X7_31 : Cond.fieldLink RX7 31 "TwoViews$Answers" "edition" "I" ∈ mTb := mt (i := 95) (by decide +kernel) rfl
theorem fl_X7_40 : Cond.fieldLink RX7 40 "TwoViews$Sheet" "plane" "I" ∈ mTb := mt (i := 57) (by decide +kernel) rfl
theorem fl_X7_22 : Cond.fieldLink RX7 22 "TwoViews$Walk" "walkedPlane" "I" ∈ mTb := mt (i := 200) (by decide +kernel) rfl
theorem fl_X7_52 : Cond.fieldLink RX7 52 "TwoViews$Answers" "size" "I" ∈ mTb := mt (i := 92) (by decide +kernel) rfl
theorem lk_X7_55 : Cond.methodLink RX7 55 yX7_reachAround ∈ mTb := mt (i := 634) (by decide +kernel) rfl
theorem im_X7_reachAround : Cond.instanceMethod yX7_reachAround ∈ mTb := mt (i := 636) (by decide +kernel) rfl
theorem se_X7_reachAround : Cond.selects RX7 yX7_reachAround yX7_reachAround ∈ mTb := ms (i := 9) (by decide +kernel) rfl
theorem fl_X5_31 : Cond.fieldLink RX5 31 "TwoViews$PinSets" "pins" "I" ∈ mTb := mt (i := 221) (by decide +kernel) rfl
theorem lk_X5_51 : Cond.methodLink RX5 51 yX6_cells ∈ mTb := mt (i := 733) (by decide +kernel) rfl
theorem lk_X5_56 : Cond.methodLink RX5 56 yX6_pinOf ∈ mTb := mt (i := 734) (by decide +kernel) rfl
theorem fl_X5_9 : Cond.fieldLink RX5 9 "TwoViews$PinSets" "cells" "[I" ∈ mTb := mt (i := 218) (by decide +kernel) rfl
theorem fl_X5_60 : Cond.fieldLink RX5 60 "TwoViews$Sheet" "pinnedYes" "I" ∈ mTb := mt (i := 54) (by decide +kernel) rfl
theorem fl_X5_63 : Cond.fieldLink RX5 63 "TwoViews$Sheet" "pinned" "I" ∈ mTb := mt (i := 51) (by decide +kernel) rfl
theorem ln_X5_66 : Cond.methodLinkNest RX5 66 yX8_yesIn "TwoViews" ∈ tables_1 := List.mem_of_getElem? (i := 739) (by decide +kernel)
theorem fl_X5_21 : Cond.fieldLink RX5 21 "TwoViews$Board" "sheet" "LTwoViews$Sheet;" ∈ mTb := mt (i := 124) (by decide +kernel) rfl
theorem lk_X5_27 : Cond.methodLink RX5 27 yX5_listPins ∈ mTb := mt (i := 729) (by decide +kernel) rfl
theorem im_X5_listPins : Cond.instanceMethod yX5_listPins ∈ mTb := mt (i := 731) (by decide +kernel) rfl
theorem se_X5_listPins : Cond.selects RX5 yX5_listPins yX5_listPins ∈ mTb := ms (i := 17) (by decide +kernel) rfl
theorem fl_X5_35 : Cond.fieldLink RX5 35 "TwoViews$Board" "list" "LTwoViews$Answers;" ∈ mTb := mt (i := 129) (by decide +kernel) rfl
theorem fl_X5_39 : Cond.fieldLink RX5 39 "TwoViews$Answers" "unpinnedSize" "I" ∈ mTb := mt (i := 86) (by decide +kernel) rfl
theorem fl_X5_18 : Cond.fieldLink RX5 18 "TwoViews$PinSets" "left" "[I" ∈ mTb := mt (i := 220) (by decide +kernel) rfl
theorem fl_X5_15 : Cond.fieldLink RX5 15 "TwoViews$PinSets" "breaking" "[I" ∈ mTb := mt (i := 219) (by decide +kernel) rfl
theorem fl_X5_44 : Cond.fieldLink RX5 44 "TwoViews$Answers" "unpinned" "[I" ∈ mTb := mt (i := 84) (by decide +kernel) rfl
theorem lk_X5_47 : Cond.methodLink RX5 47 yX5_brokenBy ∈ mTb := mt (i := 735) (by decide +kernel) rfl
theorem im_X5_brokenBy : Cond.instanceMethod yX5_brokenBy ∈ mTb := mt (i := 737) (by decide +kernel) rfl
theorem se_X5_brokenBy : Cond.selects RX5 yX5_brokenBy yX5_brokenBy ∈ mTb := ms (i := 18) (by decide +kernel) rfl
theorem lk_X5_70 : Cond.methodLink RX5 70 yJ6_bitCount_0f7a4 ∈ mTb := mt (i := 744) (by decide +kernel) rfl
theorem lk_X5_75 : Cond.methodLink RX5 75 yX5_orders ∈ mTb := mt (i := 745) (by decide +kernel) rfl
theorem im_X5_orders : Cond.instanceMethod yX5_orders ∈ mTb := mt (i := 746) (by decide +kernel) rfl
theorem se_X5_orders : Cond.selects RX5 yX5_orders yX5_orders ∈ mTb := mt (i := 747) (by decide +kernel) rfl
theorem ln_X5_78 : Cond.methodLinkNest RX5 78 yX8_power "TwoViews" ∈ tables_1 := List.mem_of_getElem? (i := 758) (by decide +kernel)
theorem sm_X8_power : Cond.static yX8_power ∈ mTb := mt (i := 759) (by decide +kernel) rfl
theorem fl_X8_22 : Cond.fieldLink RX8 22 "TwoViews" "text" "LTwoViews$Letters;" ∈ mTb := mt (i := 291) (by decide +kernel) rfl
theorem lk_X8_68 : Cond.methodLink RX8 68 yX4_append ∈ mTb := mt (i := 334) (by decide +kernel) rfl
theorem im_X4_append : Cond.instanceMethod yX4_append ∈ mTb := mt (i := 335) (by decide +kernel) rfl
theorem se_X4_append : Cond.selects RX4 yX4_append yX4_append ∈ mTb := mt (i := 336) (by decide +kernel) rfl
theorem fl_X8_72 : Cond.fieldLink RX8 72 "TwoViews$Letters" "length" "I" ∈ mTb := mt (i := 146) (by decide +kernel) rfl
theorem lk_X8_76 : Cond.methodLink RX8 76 yX4_readSheet ∈ mTb := mt (i := 346) (by decide +kernel) rfl
theorem im_X4_readSheet : Cond.instanceMethod yX4_readSheet ∈ mTb := mt (i := 347) (by decide +kernel) rfl
theorem se_X4_readSheet : Cond.selects RX4 yX4_readSheet yX4_readSheet ∈ mTb := mt (i := 348) (by decide +kernel) rfl
theorem fl_X8_10 : Cond.fieldLink RX8 10 "TwoViews" "now" "LTwoViews$Board;" ∈ mTb := mt (i := 289) (by decide +kernel) rfl
theorem fl_X8_80 : Cond.fieldLink RX8 80 "TwoViews$Board" "sheet" "LTwoViews$Sheet;" ∈ mTb := mt (i := 126) (by decide +kernel) rfl
theorem fl_X8_84 : Cond.fieldLink RX8 84 "TwoViews$Letters" "draft" "LTwoViews$Sheet;" ∈ mTb := mt (i := 148) (by decide +kernel) rfl
theorem lk_X8_87 : Cond.methodLink RX8 87 yX6_become ∈ mTb := mt (i := 405) (by decide +kernel) rfl
theorem fl_X8_91 : Cond.fieldLink RX8 91 "TwoViews$Sheet" "plane" "I" ∈ mTb := mt (i := 59) (by decide +kernel) rfl
theorem lk_X8_65 : Cond.methodLink RX8 65 yX2_settle ∈ mTb := mt (i := 234) (by decide +kernel) rfl
theorem fl_X8_29 : Cond.fieldLink RX8 29 "TwoViews" "acts" "LTwoViews$Acts;" ∈ mTb := mt (i := 292) (by decide +kernel) rfl
theorem fl_X8_94 : Cond.fieldLink RX8 94 "TwoViews$Acts" "length" "I" ∈ mTb := mt (i := 168) (by decide +kernel) rfl
theorem fl_X8_95 : Cond.fieldLink RX8 95 "TwoViews$Board" "list" "LTwoViews$Answers;" ∈ mTb := mt (i := 130) (by decide +kernel) rfl
theorem fl_X8_99 : Cond.fieldLink RX8 99 "TwoViews$Answers" "size" "I" ∈ mTb := mt (i := 93) (by decide +kernel) rfl
theorem fl_X8_60 : Cond.fieldLink RX8 60 "TwoViews" "isKept" "[Z" ∈ mTb := mt (i := 297) (by decide +kernel) rfl
theorem lk_X8_104 : Cond.methodLink RX8 104 yX6_hasTotal ∈ mTb := mt (i := 416) (by decide +kernel) rfl
theorem lk_X8_108 : Cond.methodLink RX8 108 yX6_totalOf ∈ mTb := mt (i := 420) (by decide +kernel) rfl
theorem lk_X8_112 : Cond.methodLink RX8 112 yX6_hasCell ∈ mTb := mt (i := 425) (by decide +kernel) rfl
theorem lk_X8_115 : Cond.methodLink RX8 115 yX6_pinOf ∈ mTb := mt (i := 430) (by decide +kernel) rfl
theorem fl_X8_36 : Cond.fieldLink RX8 36 "TwoViews" "filling" "LTwoViews$Filling;" ∈ mTb := mt (i := 293) (by decide +kernel) rfl
theorem lk_X8_119 : Cond.methodLink RX8 119 yX3_failsAt ∈ mTb := mt (i := 438) (by decide +kernel) rfl
theorem im_X3_failsAt : Cond.instanceMethod yX3_failsAt ∈ mTb := mt (i := 439) (by decide +kernel) rfl
theorem se_X3_failsAt : Cond.selects RX3 yX3_failsAt yX3_failsAt ∈ mTb := mt (i := 440) (by decide +kernel) rfl
theorem lk_X8_123 : Cond.methodLink RX8 123 yX3_fill ∈ mTb := mt (i := 461) (by decide +kernel) rfl
theorem im_X3_fill : Cond.instanceMethod yX3_fill ∈ mTb := mt (i := 462) (by decide +kernel) rfl
theorem se_X3_fill : Cond.selects RX3 yX3_fill yX3_fill ∈ mTb := mt (i := 463) (by decide +kernel) rfl
theorem lk_X8_126 : Cond.methodLink RX8 126 yX8_yesIn ∈ mTb := mt (i := 471) (by decide +kernel) rfl
theorem fl_X8_16 : Cond.fieldLink RX8 16 "TwoViews" "trial" "LTwoViews$Board;" ∈ mTb := mt (i := 290) (by decide +kernel) rfl
theorem lk_X8_129 : Cond.methodLink RX8 129 yX6_totalCount ∈ mTb := mt (i := 479) (by decide +kernel) rfl
theorem lk_X8_132 : Cond.methodLink RX8 132 yX6_mostTotal ∈ mTb := mt (i := 480) (by decide +kernel) rfl
theorem lk_X8_135 : Cond.methodLink RX8 135 yX6_putTotal ∈ mTb := mt (i := 481) (by decide +kernel) rfl
theorem lk_X8_139 : Cond.methodLink RX8 139 yX2_planeAt ∈ mTb := mt (i := 490) (by decide +kernel) rfl
theorem lk_X8_142 : Cond.methodLink RX8 142 yX1_sureAt ∈ mTb := mt (i := 495) (by decide +kernel) rfl
theorem lk_X8_145 : Cond.methodLink RX8 145 yX1_yesAt ∈ mTb := mt (i := 504) (by decide +kernel) rfl
theorem im_X1_yesAt : Cond.instanceMethod yX1_yesAt ∈ mTb := mt (i := 505) (by decide +kernel) rfl
theorem se_X1_yesAt : Cond.selects RX1 yX1_yesAt yX1_yesAt ∈ mTb := mt (i := 506) (by decide +kernel) rfl
theorem lk_X8_148 : Cond.methodLink RX8 148 yX8_inLeastTerms ∈ mTb := mt (i := 513) (by decide +kernel) rfl
theorem sm_X8_inLeastTerms : Cond.static yX8_inLeastTerms ∈ mTb := mt (i := 514) (by decide +kernel) rfl
theorem lk_X8_152 : Cond.methodLink RX8 152 yX6_cells ∈ mTb := mt (i := 526) (by decide +kernel) rfl
theorem lk_X8_160 : Cond.methodLink RX8 160 yX1_numberOf ∈ mTb := mt (i := 531) (by decide +kernel) rfl
theorem lk_X8_163 : Cond.methodLink RX8 163 yX0_add ∈ mTb := mt (i := 536) (by decide +kernel) rfl
theorem im_X0_add : Cond.instanceMethod yX0_add ∈ mTb := mt (i := 537) (by decide +kernel) rfl
theorem se_X0_add : Cond.selects RX0 yX0_add yX0_add ∈ mTb := mt (i := 538) (by decide +kernel) rfl
theorem fl_X8_166 : Cond.fieldLink RX8 166 "TwoViews$Answers" "planes" "[I" ∈ mTb := mt (i := 90) (by decide +kernel) rfl
theorem lk_X8_170 : Cond.methodLink RX8 170 yJ6_bitCount_0f7a4 ∈ mTb := mt (i := 542) (by decide +kernel) rfl
theorem lk_X8_175 : Cond.methodLink RX8 175 yX2_switchRefusal ∈ mTb := mt (i := 547) (by decide +kernel) rfl
theorem lk_X8_179 : Cond.methodLink RX8 179 yX2_makeSwitch ∈ mTb := mt (i := 566) (by decide +kernel) rfl
theorem lk_X8_183 : Cond.methodLink RX8 183 yX6_switchCount ∈ mTb := mt (i := 575) (by decide +kernel) rfl
theorem im_X6_switchCount : Cond.instanceMethod yX6_switchCount ∈ mTb := mt (i := 576) (by decide +kernel) rfl
theorem se_X6_switchCount : Cond.selects RX6 yX6_switchCount yX6_switchCount ∈ mTb := mt (i := 577) (by decide +kernel) rfl
theorem lk_X8_186 : Cond.methodLink RX8 186 yX2_totalRefusal ∈ mTb := mt (i := 583) (by decide +kernel) rfl
theorem lk_X8_190 : Cond.methodLink RX8 190 yX2_pinRefusal ∈ mTb := mt (i := 593) (by decide +kernel) rfl
theorem lk_X8_193 : Cond.methodLink RX8 193 yX6_putPin ∈ mTb := mt (i := 600) (by decide +kernel) rfl
theorem lk_X8_197 : Cond.methodLink RX8 197 yX0_takeBack ∈ mTb := mt (i := 605) (by decide +kernel) rfl
theorem im_X0_takeBack : Cond.instanceMethod yX0_takeBack ∈ mTb := mt (i := 606) (by decide +kernel) rfl
theorem se_X0_takeBack : Cond.selects RX0 yX0_takeBack yX0_takeBack ∈ mTb := mt (i := 607) (by decide +kernel) rfl
theorem lk_X8_200 : Cond.methodLink RX8 200 yX6_firstSwitch ∈ mTb := mt (i := 613) (by decide +kernel) rfl
theorem im_X6_firstSwitch : Cond.instanceMethod yX6_firstSwitch ∈ mTb := mt (i := 614) (by decide +kernel) rfl
theorem se_X6_firstSwitch : Cond.selects RX6 yX6_firstSwitch yX6_firstSwitch ∈ mTb := mt (i := 615) (by decide +kernel) rfl
theorem fl_X8_43 : Cond.fieldLink RX8 43 "TwoViews" "walk" "LTwoViews$Walk;" ∈ mTb := mt (i := 294) (by decide +kernel) rfl
theorem lk_X8_203 : Cond.methodLink RX8 203 yX7_goFrom ∈ mTb := mt (i := 625) (by decide +kernel) rfl
theorem im_X7_goFrom : Cond.instanceMethod yX7_goFrom ∈ mTb := mt (i := 626) (by decide +kernel) rfl
theorem se_X7_goFrom : Cond.selects RX7 yX7_goFrom yX7_goFrom ∈ mTb := mt (i := 627) (by decide +kernel) rfl
theorem fl_X8_207 : Cond.fieldLink RX8 207 "TwoViews$Walk" "found" "I" ∈ mTb := mt (i := 198) (by decide +kernel) rfl
theorem fl_X8_56 : Cond.fieldLink RX8 56 "TwoViews" "slots" "[LTwoViews$Sheet;" ∈ mTb := mt (i := 296) (by decide +kernel) rfl
theorem fl_X8_210 : Cond.fieldLink RX8 210 "TwoViews$Sheet" "h" "I" ∈ mTb := mt (i := 39) (by decide +kernel) rfl
theorem fl_X8_213 : Cond.fieldLink RX8 213 "TwoViews$Sheet" "w" "I" ∈ mTb := mt (i := 45) (by decide +kernel) rfl
theorem lk_X8_216 : Cond.methodLink RX8 216 yX7_stepsTo ∈ mTb := mt (i := 649) (by decide +kernel) rfl
theorem im_X7_stepsTo : Cond.instanceMethod yX7_stepsTo ∈ mTb := mt (i := 650) (by decide +kernel) rfl
theorem se_X7_stepsTo : Cond.selects RX7 yX7_stepsTo yX7_stepsTo ∈ mTb := mt (i := 651) (by decide +kernel) rfl
theorem lk_X8_219 : Cond.methodLink RX8 219 yX2_findKey ∈ mTb := mt (i := 657) (by decide +kernel) rfl
theorem im_X2_findKey : Cond.instanceMethod yX2_findKey ∈ mTb := mt (i := 658) (by decide +kernel) rfl
theorem se_X2_findKey : Cond.selects RX2 yX2_findKey yX2_findKey ∈ mTb := mt (i := 659) (by decide +kernel) rfl
theorem fl_X8_222 : Cond.fieldLink RX8 222 "TwoViews" "DOING_UNITS" "[J" ∈ mTb := mt (i := 682) (by decide +kernel) rfl
theorem lk_X8_226 : Cond.methodLink RX8 226 yX2_takes ∈ mTb := mt (i := 684) (by decide +kernel) rfl
theorem im_X2_takes : Cond.instanceMethod yX2_takes ∈ mTb := mt (i := 685) (by decide +kernel) rfl
theorem se_X2_takes : Cond.selects RX2 yX2_takes yX2_takes ∈ mTb := mt (i := 686) (by decide +kernel) rfl
theorem fl_X8_229 : Cond.fieldLink RX8 229 "TwoViews" "seenCount" "I" ∈ mTb := mt (i := 300) (by decide +kernel) rfl
theorem fl_X8_238 : Cond.fieldLink RX8 238 "TwoViews" "seenNo" "I" ∈ mTb := mt (i := 299) (by decide +kernel) rfl
theorem fl_X8_232 : Cond.fieldLink RX8 232 "TwoViews" "seenYes" "I" ∈ mTb := mt (i := 298) (by decide +kernel) rfl
theorem fl_X8_50 : Cond.fieldLink RX8 50 "TwoViews" "pinSets" "LTwoViews$PinSets;" ∈ mTb := mt (i := 295) (by decide +kernel) rfl
theorem lk_X8_241 : Cond.methodLink RX8 241 yX5_weigh ∈ mTb := mt (i := 725) (by decide +kernel) rfl
theorem im_X5_weigh : Cond.instanceMethod yX5_weigh ∈ mTb := mt (i := 726) (by decide +kernel) rfl
theorem se_X5_weigh : Cond.selects RX5 yX5_weigh yX5_weigh ∈ mTb := mt (i := 727) (by decide +kernel) rfl
theorem lk_X8_244 : Cond.methodLink RX8 244 yX5_fewerInAllOrders ∈ mTb := mt (i := 740) (by decide +kernel) rfl
theorem im_X5_fewerInAllOrders : Cond.instanceMethod yX5_fewerInAllOrders ∈ mTb := mt (i := 741) (by decide +kernel) rfl
theorem se_X5_fewerInAllOrders : Cond.selects RX5 yX5_fewerInAllOrders yX5_fewerInAllOrders ∈ mTb := mt (i := 742) (by decide +kernel) rfl
theorem fl_X8_247 : Cond.fieldLink RX8 247 "TwoViews$PinSets" "pins" "I" ∈ mTb := mt (i := 222) (by decide +kernel) rfl
theorem lk_X8_250 : Cond.methodLink RX8 250 yX5_orders ∈ mTb := mt (i := 749) (by decide +kernel) rfl
theorem lk_X8_253 : Cond.methodLink RX8 253 yX5_chancesOfOne ∈ mTb := mt (i := 754) (by decide +kernel) rfl
theorem im_X5_chancesOfOne : Cond.instanceMethod yX5_chancesOfOne ∈ mTb := mt (i := 755) (by decide +kernel) rfl
theorem se_X5_chancesOfOne : Cond.selects RX5 yX5_chancesOfOne yX5_chancesOfOne ∈ mTb := mt (i := 756) (by decide +kernel) rfl
theorem lk_X8_256 : Cond.methodLink RX8 256 yX8_power ∈ mTb := mt (i := 761) (by decide +kernel) rfl
theorem fl_X8_259 : Cond.fieldLink RX8 259 "TwoViews" "theSeed" "J" ∈ mTb := mt (i := 301) (by decide +kernel) rfl
theorem lk_X8_270 : Cond.methodLink RX8 270 yX8_remainder ∈ mTb := mt (i := 776) (by decide +kernel) rfl
theorem sm_X8_remainder : Cond.static yX8_remainder ∈ mTb := mt (i := 777) (by decide +kernel) rfl
theorem lk_X8_277 : Cond.methodLink RX8 277 yX6_switched ∈ mTb := mt (i := 780) (by decide +kernel) rfl
theorem lk_X8_273 : Cond.methodLink RX8 273 yX6_isSwitch ∈ mTb := mt (i := 779) (by decide +kernel) rfl
theorem kl_X8_263 : Cond.constantLong RX8 263 (6364136223846793005) ∈ mTb := mt (i := 770) (by decide +kernel) rfl
theorem kl_X8_265 : Cond.constantLong RX8 265 (1442695040888963407) ∈ mTb := mt (i := 771) (by decide +kernel) rfl
theorem lk_X8_267 : Cond.methodLink RX8 267 yX8_drawSwitch ∈ mTb := mt (i := 772) (by decide +kernel) rfl
theorem im_X8_drawSwitch : Cond.instanceMethod yX8_drawSwitch ∈ mTb := mt (i := 774) (by decide +kernel) rfl
theorem se_X8_drawSwitch : Cond.selects RX8 yX8_drawSwitch yX8_drawSwitch ∈ mTb := ms (i := 19) (by decide +kernel) rfl
theorem lk_X8_281 : Cond.methodLink RX8 281 yX6_pinCount ∈ mTb := mt (i := 793) (by decide +kernel) rfl
theorem lk_X8_284 : Cond.methodLink RX8 284 yX1_openCells ∈ mTb := mt (i := 794) (by decide +kernel) rfl
theorem lk_X8_287 : Cond.methodLink RX8 287 yX6_together ∈ mTb := mt (i := 795) (by decide +kernel) rfl
theorem lk_X9_69 : Cond.methodLink RX9 69 yX9_cells ∈ mTb := mt (i := 912) (by decide +kernel) rfl
theorem sm_X9_cells : Cond.static yX9_cells ∈ mTb := mt (i := 913) (by decide +kernel) rfl
theorem lk_X9_73 : Cond.methodLink RX9 73 yX9_has ∈ mTb := mt (i := 940) (by decide +kernel) rfl
theorem sm_X9_has : Cond.static yX9_has ∈ mTb := mt (i := 941) (by decide +kernel) rfl
theorem fl_X9_16 : Cond.fieldLink RX9 16 "TwoViewsModel" "page" "[I" ∈ mTb := mt (i := 806) (by decide +kernel) rfl
theorem lk_X9_77 : Cond.methodLink RX9 77 yX9_in ∈ mTb := mt (i := 886) (by decide +kernel) rfl
theorem sm_X9_in : Cond.static yX9_in ∈ mTb := mt (i := 887) (by decide +kernel) rfl
theorem fl_X9_65 : Cond.fieldLink RX9 65 "TwoViewsModel" "thrown" "I" ∈ mTb := mt (i := 802) (by decide +kernel) rfl
theorem kl_X9_81 : Cond.constantLong RX9 81 (255) ∈ mTb := mt (i := 885) (by decide +kernel) rfl
theorem fl_X9_83 : Cond.fieldLink RX9 83 "TwoViewsModel" "textSize" "I" ∈ mTb := mt (i := 804) (by decide +kernel) rfl
theorem fl_X9_7 : Cond.fieldLink RX9 7 "TwoViewsModel" "text" "[I" ∈ mTb := mt (i := 803) (by decide +kernel) rfl
theorem fl_X9_13 : Cond.fieldLink RX9 13 "TwoViewsModel" "readPage" "[I" ∈ mTb := mt (i := 805) (by decide +kernel) rfl
theorem lk_X9_86 : Cond.methodLink RX9 86 yX9_pinned ∈ mTb := mt (i := 909) (by decide +kernel) rfl
theorem sm_X9_pinned : Cond.static yX9_pinned ∈ mTb := mt (i := 910) (by decide +kernel) rfl
theorem lk_X9_89 : Cond.methodLink RX9 89 yX9_figure ∈ mTb := mt (i := 901) (by decide +kernel) rfl
theorem im_X9_figure : Cond.instanceMethod yX9_figure ∈ mTb := mt (i := 903) (by decide +kernel) rfl
theorem se_X9_figure : Cond.selects RX9 yX9_figure yX9_figure ∈ mTb := ms (i := 21) (by decide +kernel) rfl
theorem lk_X9_93 : Cond.methodLink RX9 93 yX9_isFullRow ∈ mTb := mt (i := 915) (by decide +kernel) rfl
theorem sm_X9_isFullRow : Cond.static yX9_isFullRow ∈ mTb := mt (i := 916) (by decide +kernel) rfl
theorem lk_X9_97 : Cond.methodLink RX9 97 yX9_readPins ∈ mTb := mt (i := 905) (by decide +kernel) rfl
theorem im_X9_readPins : Cond.instanceMethod yX9_readPins ∈ mTb := mt (i := 907) (by decide +kernel) rfl
theorem se_X9_readPins : Cond.selects RX9 yX9_readPins yX9_readPins ∈ mTb := ms (i := 22) (by decide +kernel) rfl
theorem lk_X9_101 : Cond.methodLink RX9 101 yX9_readSheet ∈ mTb := mt (i := 897) (by decide +kernel) rfl
theorem im_X9_readSheet : Cond.instanceMethod yX9_readSheet ∈ mTb := mt (i := 899) (by decide +kernel) rfl
theorem se_X9_readSheet : Cond.selects RX9 yX9_readSheet yX9_readSheet ∈ mTb := ms (i := 20) (by decide +kernel) rfl
theorem fl_X9_41 : Cond.fieldLink RX9 41 "TwoViewsModel" "masks" "[I" ∈ mTb := mt (i := 817) (by decide +kernel) rfl
theorem lk_X9_105 : Cond.methodLink RX9 105 yX9_ones ∈ mTb := mt (i := 937) (by decide +kernel) rfl
theorem sm_X9_ones : Cond.static yX9_ones ∈ mTb := mt (i := 938) (by decide +kernel) rfl
theorem fl_X9_38 : Cond.fieldLink RX9 38 "TwoViewsModel" "mask" "[I" ∈ mTb := mt (i := 816) (by decide +kernel) rfl
theorem fl_X9_112 : Cond.fieldLink RX9 112 "TwoViewsModel" "many" "I" ∈ mTb := mt (i := 819) (by decide +kernel) rfl
theorem lk_X9_115 : Cond.methodLink RX9 115 yX9_target ∈ mTb := mt (i := 943) (by decide +kernel) rfl
theorem sm_X9_target : Cond.static yX9_target ∈ mTb := mt (i := 944) (by decide +kernel) rfl
theorem lk_X9_118 : Cond.methodLink RX9 118 yX9_packed ∈ mTb := mt (i := 946) (by decide +kernel) rfl
theorem sm_X9_packed : Cond.static yX9_packed ∈ mTb := mt (i := 947) (by decide +kernel) rfl
theorem fl_X9_44 : Cond.fieldLink RX9 44 "TwoViewsModel" "all" "[I" ∈ mTb := mt (i := 818) (by decide +kernel) rfl
theorem lk_X9_108 : Cond.methodLink RX9 108 yX9_findMasks ∈ mTb := mt (i := 933) (by decide +kernel) rfl
theorem im_X9_findMasks : Cond.instanceMethod yX9_findMasks ∈ mTb := mt (i := 935) (by decide +kernel) rfl
theorem se_X9_findMasks : Cond.selects RX9 yX9_findMasks yX9_findMasks ∈ mTb := ms (i := 25) (by decide +kernel) rfl
theorem lk_X9_122 : Cond.methodLink RX9 122 yX9_list ∈ mTb := mt (i := 929) (by decide +kernel) rfl
theorem im_X9_list : Cond.instanceMethod yX9_list ∈ mTb := mt (i := 931) (by decide +kernel) rfl
theorem se_X9_list : Cond.selects RX9 yX9_list yX9_list ∈ mTb := ms (i := 24) (by decide +kernel) rfl
theorem lk_X9_126 : Cond.methodLink RX9 126 yX9_place ∈ mTb := mt (i := 949) (by decide +kernel) rfl
theorem im_X9_place : Cond.instanceMethod yX9_place ∈ mTb := mt (i := 951) (by decide +kernel) rfl
theorem se_X9_place : Cond.selects RX9 yX9_place yX9_place ∈ mTb := ms (i := 26) (by decide +kernel) rfl
theorem lk_X9_129 : Cond.methodLink RX9 129 yX9_lay ∈ mTb := mt (i := 922) (by decide +kernel) rfl
theorem sm_X9_lay : Cond.static yX9_lay ∈ mTb := mt (i := 923) (by decide +kernel) rfl
theorem lk_X9_133 : Cond.methodLink RX9 133 yX9_settle ∈ mTb := mt (i := 925) (by decide +kernel) rfl
theorem im_X9_settle : Cond.instanceMethod yX9_settle ∈ mTb := mt (i := 927) (by decide +kernel) rfl
theorem se_X9_settle : Cond.selects RX9 yX9_settle yX9_settle ∈ mTb := ms (i := 23) (by decide +kernel) rfl
theorem fl_X9_137 : Cond.fieldLink RX9 137 "TwoViewsModel" "doings" "I" ∈ mTb := mt (i := 809) (by decide +kernel) rfl
theorem fl_X9_28 : Cond.fieldLink RX9 28 "TwoViewsModel" "isKept" "[Z" ∈ mTb := mt (i := 811) (by decide +kernel) rfl
theorem lk_X9_140 : Cond.methodLink RX9 140 yX9_noLine ∈ mTb := mt (i := 957) (by decide +kernel) rfl
theorem im_X9_noLine : Cond.instanceMethod yX9_noLine ∈ mTb := mt (i := 959) (by decide +kernel) rfl
theorem se_X9_noLine : Cond.selects RX9 yX9_noLine yX9_noLine ∈ mTb := ms (i := 27) (by decide +kernel) rfl
theorem lk_X9_143 : Cond.methodLink RX9 143 yX9_totalAt ∈ mTb := mt (i := 961) (by decide +kernel) rfl
theorem sm_X9_totalAt : Cond.static yX9_totalAt ∈ mTb := mt (i := 962) (by decide +kernel) rfl
theorem lk_X9_146 : Cond.methodLink RX9 146 yX9_noCell ∈ mTb := mt (i := 968) (by decide +kernel) rfl
theorem im_X9_noCell : Cond.instanceMethod yX9_noCell ∈ mTb := mt (i := 970) (by decide +kernel) rfl
theorem se_X9_noCell : Cond.selects RX9 yX9_noCell yX9_noCell ∈ mTb := ms (i := 28) (by decide +kernel) rfl
theorem lk_X9_150 : Cond.methodLink RX9 150 yX9_sum ∈ mTb := mt (i := 979) (by decide +kernel) rfl
theorem sm_X9_sum : Cond.static yX9_sum ∈ mTb := mt (i := 980) (by decide +kernel) rfl
theorem lk_X9_154 : Cond.methodLink RX9 154 yX9_greatest ∈ mTb := mt (i := 982) (by decide +kernel) rfl
theorem sm_X9_greatest : Cond.static yX9_greatest ∈ mTb := mt (i := 983) (by decide +kernel) rfl
theorem lk_X9_158 : Cond.methodLink RX9 158 yX9_tested ∈ mTb := mt (i := 976) (by decide +kernel) rfl
theorem sm_X9_tested : Cond.static yX9_tested ∈ mTb := mt (i := 977) (by decide +kernel) rfl
theorem fl_X9_53 : Cond.fieldLink RX9 53 "TwoViewsModel" "order" "[I" ∈ mTb := mt (i := 822) (by decide +kernel) rfl
theorem fl_X9_56 : Cond.fieldLink RX9 56 "TwoViewsModel" "lack" "[I" ∈ mTb := mt (i := 823) (by decide +kernel) rfl
theorem lk_X9_161 : Cond.methodLink RX9 161 yX9_orderRows ∈ mTb := mt (i := 993) (by decide +kernel) rfl
theorem im_X9_orderRows : Cond.instanceMethod yX9_orderRows ∈ mTb := mt (i := 995) (by decide +kernel) rfl
theorem se_X9_orderRows : Cond.selects RX9 yX9_orderRows yX9_orderRows ∈ mTb := ms (i := 30) (by decide +kernel) rfl
theorem lk_X9_164 : Cond.methodLink RX9 164 yX9_ahead ∈ mTb := mt (i := 997) (by decide +kernel) rfl
theorem im_X9_ahead : Cond.instanceMethod yX9_ahead ∈ mTb := mt (i := 999) (by decide +kernel) rfl
theorem se_X9_ahead : Cond.selects RX9 yX9_ahead yX9_ahead ∈ mTb := ms (i := 31) (by decide +kernel) rfl
theorem lk_X9_167 : Cond.methodLink RX9 167 yX9_fill ∈ mTb := mt (i := 989) (by decide +kernel) rfl
theorem im_X9_fill : Cond.instanceMethod yX9_fill ∈ mTb := mt (i := 991) (by decide +kernel) rfl
theorem se_X9_fill : Cond.selects RX9 yX9_fill yX9_fill ∈ mTb := ms (i := 29) (by decide +kernel) rfl
theorem fl_X9_19 : Cond.fieldLink RX9 19 "TwoViewsModel" "trial" "[I" ∈ mTb := mt (i := 807) (by decide +kernel) rfl
theorem lk_X9_170 : Cond.methodLink RX9 170 yX9_isYes ∈ mTb := mt (i := 1014) (by decide +kernel) rfl
theorem sm_X9_isYes : Cond.static yX9_isYes ∈ mTb := mt (i := 1015) (by decide +kernel) rfl
theorem lk_X9_174 : Cond.methodLink RX9 174 yX9_yesIn ∈ mTb := mt (i := 1021) (by decide +kernel) rfl
theorem im_X9_yesIn : Cond.instanceMethod yX9_yesIn ∈ mTb := mt (i := 1023) (by decide +kernel) rfl
theorem se_X9_yesIn : Cond.selects RX9 yX9_yesIn yX9_yesIn ∈ mTb := ms (i := 33) (by decide +kernel) rfl
theorem kl_X9_177 : Cond.constantLong RX9 177 (2) ∈ mTb := mt (i := 1013) (by decide +kernel) rfl
theorem lk_X9_179 : Cond.methodLink RX9 179 yX9_sure ∈ mTb := mt (i := 1017) (by decide +kernel) rfl
theorem im_X9_sure : Cond.instanceMethod yX9_sure ∈ mTb := mt (i := 1019) (by decide +kernel) rfl
theorem se_X9_sure : Cond.selects RX9 yX9_sure yX9_sure ∈ mTb := ms (i := 32) (by decide +kernel) rfl
theorem lk_X9_182 : Cond.methodLink RX9 182 yX9_divisor ∈ mTb := mt (i := 1032) (by decide +kernel) rfl
theorem sm_X9_divisor : Cond.static yX9_divisor ∈ mTb := mt (i := 1033) (by decide +kernel) rfl
theorem lk_X9_185 : Cond.methodLink RX9 185 yX9_fraction ∈ mTb := mt (i := 1029) (by decide +kernel) rfl
theorem sm_X9_fraction : Cond.static yX9_fraction ∈ mTb := mt (i := 1030) (by decide +kernel) rfl
theorem fl_X9_22 : Cond.fieldLink RX9 22 "TwoViewsModel" "book" "[I" ∈ mTb := mt (i := 808) (by decide +kernel) rfl
theorem lk_X9_189 : Cond.methodLink RX9 189 yX9_note ∈ mTb := mt (i := 1047) (by decide +kernel) rfl
theorem im_X9_note : Cond.instanceMethod yX9_note ∈ mTb := mt (i := 1049) (by decide +kernel) rfl
theorem se_X9_note : Cond.selects RX9 yX9_note yX9_note ∈ mTb := ms (i := 34) (by decide +kernel) rfl
theorem lk_X9_192 : Cond.methodLink RX9 192 yX9_bit ∈ mTb := mt (i := 1058) (by decide +kernel) rfl
theorem sm_X9_bit : Cond.static yX9_bit ∈ mTb := mt (i := 1059) (by decide +kernel) rfl
theorem lk_X9_195 : Cond.methodLink RX9 195 yX9_four ∈ mTb := mt (i := 1055) (by decide +kernel) rfl
theorem sm_X9_four : Cond.static yX9_four ∈ mTb := mt (i := 1056) (by decide +kernel) rfl
theorem lk_X9_199 : Cond.methodLink RX9 199 yX9_countSwitches ∈ mTb := mt (i := 1061) (by decide +kernel) rfl
theorem im_X9_countSwitches : Cond.instanceMethod yX9_countSwitches ∈ mTb := mt (i := 1063) (by decide +kernel) rfl
theorem se_X9_countSwitches : Cond.selects RX9 yX9_countSwitches yX9_countSwitches ∈ mTb := ms (i := 35) (by decide +kernel) rfl
theorem lk_X9_202 : Cond.methodLink RX9 202 yX9_tooMany ∈ mTb := mt (i := 1073) (by decide +kernel) rfl
theorem sm_X9_tooMany : Cond.static yX9_tooMany ∈ mTb := mt (i := 1074) (by decide +kernel) rfl
theorem fl_X9_50 : Cond.fieldLink RX9 50 "TwoViewsModel" "line" "[I" ∈ mTb := mt (i := 821) (by decide +kernel) rfl
theorem fl_X9_47 : Cond.fieldLink RX9 47 "TwoViewsModel" "steps" "[I" ∈ mTb := mt (i := 820) (by decide +kernel) rfl
theorem lk_X9_205 : Cond.methodLink RX9 205 yX9_areFour ∈ mTb := mt (i := 1092) (by decide +kernel) rfl
theorem sm_X9_areFour : Cond.static yX9_areFour ∈ mTb := mt (i := 1093) (by decide +kernel) rfl
theorem lk_X9_208 : Cond.methodLink RX9 208 yX9_spread ∈ mTb := mt (i := 1088) (by decide +kernel) rfl
theorem im_X9_spread : Cond.instanceMethod yX9_spread ∈ mTb := mt (i := 1090) (by decide +kernel) rfl
theorem se_X9_spread : Cond.selects RX9 yX9_spread yX9_spread ∈ mTb := ms (i := 36) (by decide +kernel) rfl
theorem fl_X9_25 : Cond.fieldLink RX9 25 "TwoViewsModel" "kept" "[I" ∈ mTb := mt (i := 810) (by decide +kernel) rfl
theorem lk_X9_211 : Cond.methodLink RX9 211 yX9_tells ∈ mTb := mt (i := 1107) (by decide +kernel) rfl
theorem im_X9_tells : Cond.instanceMethod yX9_tells ∈ mTb := mt (i := 1109) (by decide +kernel) rfl
theorem se_X9_tells : Cond.selects RX9 yX9_tells yX9_tells ∈ mTb := ms (i := 38) (by decide +kernel) rfl
theorem fl_X9_214 : Cond.fieldLink RX9 214 "TwoViewsModel" "keySize" "I" ∈ mTb := mt (i := 826) (by decide +kernel) rfl
theorem fl_X9_217 : Cond.fieldLink RX9 217 "TwoViewsModel" "keyCells" "I" ∈ mTb := mt (i := 827) (by decide +kernel) rfl
theorem lk_X9_220 : Cond.methodLink RX9 220 yX9_cellBit ∈ mTb := mt (i := 1111) (by decide +kernel) rfl
theorem im_X9_cellBit : Cond.instanceMethod yX9_cellBit ∈ mTb := mt (i := 1113) (by decide +kernel) rfl
theorem se_X9_cellBit : Cond.selects RX9 yX9_cellBit yX9_cellBit ∈ mTb := ms (i := 39) (by decide +kernel) rfl
theorem lk_X9_223 : Cond.methodLink RX9 223 yX9_findKey ∈ mTb := mt (i := 1103) (by decide +kernel) rfl
theorem im_X9_findKey : Cond.instanceMethod yX9_findKey ∈ mTb := mt (i := 1105) (by decide +kernel) rfl
theorem se_X9_findKey : Cond.selects RX9 yX9_findKey yX9_findKey ∈ mTb := ms (i := 37) (by decide +kernel) rfl
theorem lk_X9_226 : Cond.methodLink RX9 226 yX9_putSwitch ∈ mTb := mt (i := 1128) (by decide +kernel) rfl
theorem im_X9_putSwitch : Cond.instanceMethod yX9_putSwitch ∈ mTb := mt (i := 1130) (by decide +kernel) rfl
theorem se_X9_putSwitch : Cond.selects RX9 yX9_putSwitch yX9_putSwitch ∈ mTb := ms (i := 41) (by decide +kernel) rfl
theorem lk_X9_230 : Cond.methodLink RX9 230 yX9_putPin ∈ mTb := mt (i := 1132) (by decide +kernel) rfl
theorem im_X9_putPin : Cond.instanceMethod yX9_putPin ∈ mTb := mt (i := 1134) (by decide +kernel) rfl
theorem se_X9_putPin : Cond.selects RX9 yX9_putPin yX9_putPin ∈ mTb := ms (i := 42) (by decide +kernel) rfl
theorem lk_X9_233 : Cond.methodLink RX9 233 yX9_putTotal ∈ mTb := mt (i := 1136) (by decide +kernel) rfl
theorem im_X9_putTotal : Cond.instanceMethod yX9_putTotal ∈ mTb := mt (i := 1138) (by decide +kernel) rfl
theorem se_X9_putTotal : Cond.selects RX9 yX9_putTotal yX9_putTotal ∈ mTb := ms (i := 43) (by decide +kernel) rfl
theorem kl_X9_237 : Cond.constantLong RX9 237 (3) ∈ mTb := mt (i := 1119) (by decide +kernel) rfl
theorem kl_X9_239 : Cond.constantLong RX9 239 (100000) ∈ mTb := mt (i := 1120) (by decide +kernel) rfl
theorem lk_X9_241 : Cond.methodLink RX9 241 yX9_longPower ∈ mTb := mt (i := 1121) (by decide +kernel) rfl
theorem sm_X9_longPower : Cond.static yX9_longPower ∈ mTb := mt (i := 1122) (by decide +kernel) rfl
theorem lk_X9_245 : Cond.methodLink RX9 245 yX9_does ∈ mTb := mt (i := 1124) (by decide +kernel) rfl
theorem im_X9_does : Cond.instanceMethod yX9_does ∈ mTb := mt (i := 1126) (by decide +kernel) rfl
theorem se_X9_does : Cond.selects RX9 yX9_does yX9_does ∈ mTb := ms (i := 40) (by decide +kernel) rfl
theorem kl_X9_248 : Cond.constantLong RX9 248 (19) ∈ mTb := mt (i := 1144) (by decide +kernel) rfl
theorem fl_X9_250 : Cond.fieldLink RX9 250 "TwoViewsModel" "seen" "I" ∈ mTb := mt (i := 812) (by decide +kernel) rfl
theorem fl_X9_32 : Cond.fieldLink RX9 32 "TwoViewsModel" "seenCell" "[I" ∈ mTb := mt (i := 813) (by decide +kernel) rfl
theorem fl_X9_35 : Cond.fieldLink RX9 35 "TwoViewsModel" "seenIs" "[I" ∈ mTb := mt (i := 814) (by decide +kernel) rfl
theorem lk_X9_253 : Cond.methodLink RX9 253 yX9_agrees ∈ mTb := mt (i := 1153) (by decide +kernel) rfl
theorem im_X9_agrees : Cond.instanceMethod yX9_agrees ∈ mTb := mt (i := 1155) (by decide +kernel) rfl
theorem se_X9_agrees : Cond.selects RX9 yX9_agrees yX9_agrees ∈ mTb := ms (i := 44) (by decide +kernel) rfl
theorem fl_X9_59 : Cond.fieldLink RX9 59 "TwoViewsModel" "kinds" "[I" ∈ mTb := mt (i := 824) (by decide +kernel) rfl
theorem lk_X9_256 : Cond.methodLink RX9 256 yX9_listPins ∈ mTb := mt (i := 1165) (by decide +kernel) rfl
theorem im_X9_listPins : Cond.instanceMethod yX9_listPins ∈ mTb := mt (i := 1167) (by decide +kernel) rfl
theorem se_X9_listPins : Cond.selects RX9 yX9_listPins yX9_listPins ∈ mTb := ms (i := 46) (by decide +kernel) rfl
theorem fl_X9_62 : Cond.fieldLink RX9 62 "TwoViewsModel" "worth" "[I" ∈ mTb := mt (i := 825) (by decide +kernel) rfl
theorem lk_X9_259 : Cond.methodLink RX9 259 yX9_holds ∈ mTb := mt (i := 1169) (by decide +kernel) rfl
theorem im_X9_holds : Cond.instanceMethod yX9_holds ∈ mTb := mt (i := 1171) (by decide +kernel) rfl
theorem se_X9_holds : Cond.selects RX9 yX9_holds yX9_holds ∈ mTb := ms (i := 47) (by decide +kernel) rfl
theorem lk_X9_262 : Cond.methodLink RX9 262 yX9_weigh ∈ mTb := mt (i := 1161) (by decide +kernel) rfl
theorem im_X9_weigh : Cond.instanceMethod yX9_weigh ∈ mTb := mt (i := 1163) (by decide +kernel) rfl
theorem se_X9_weigh : Cond.selects RX9 yX9_weigh yX9_weigh ∈ mTb := ms (i := 45) (by decide +kernel) rfl
theorem lk_X9_265 : Cond.methodLink RX9 265 yX9_factorial ∈ mTb := mt (i := 1173) (by decide +kernel) rfl
theorem sm_X9_factorial : Cond.static yX9_factorial ∈ mTb := mt (i := 1174) (by decide +kernel) rfl
theorem kl_X9_268 : Cond.constantLong RX9 268 (10) ∈ mTb := mt (i := 1180) (by decide +kernel) rfl
theorem lk_X9_270 : Cond.methodLink RX9 270 yX9_power ∈ mTb := mt (i := 1181) (by decide +kernel) rfl
theorem sm_X9_power : Cond.static yX9_power ∈ mTb := mt (i := 1182) (by decide +kernel) rfl
theorem fl_X9_273 : Cond.fieldLink RX9 273 "TwoViewsModel" "seed" "J" ∈ mTb := mt (i := 815) (by decide +kernel) rfl
theorem kl_X9_277 : Cond.constantLong RX9 277 (20) ∈ mTb := mt (i := 1192) (by decide +kernel) rfl
theorem kl_X9_279 : Cond.constantLong RX9 279 (6364136223846793005) ∈ mTb := mt (i := 1193) (by decide +kernel) rfl
theorem kl_X9_281 : Cond.constantLong RX9 281 (1442695040888963407) ∈ mTb := mt (i := 1194) (by decide +kernel) rfl
theorem lk_X9_283 : Cond.methodLink RX9 283 yX9_openCells ∈ mTb := mt (i := 1207) (by decide +kernel) rfl
theorem im_X9_openCells : Cond.instanceMethod yX9_openCells ∈ mTb := mt (i := 1209) (by decide +kernel) rfl
theorem se_X9_openCells : Cond.selects RX9 yX9_openCells yX9_openCells ∈ mTb := ms (i := 48) (by decide +kernel) rfl
