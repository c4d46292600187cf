theorem kb_10 : (Int8.ofInt (10)).toInt32 = (10 : Int32) := by decide
theorem kb_100 : (Int8.ofInt (100)).toInt32 = (100 : Int32) := by decide
theorem kb_11 : (Int8.ofInt (11)).toInt32 = (11 : Int32) := by decide
theorem kb_12 : (Int8.ofInt (12)).toInt32 = (12 : Int32) := by decide
theorem kb_13 : (Int8.ofInt (13)).toInt32 = (13 : Int32) := by decide
theorem kb_15 : (Int8.ofInt (15)).toInt32 = (15 : Int32) := by decide
theorem kb_16 : (Int8.ofInt (16)).toInt32 = (16 : Int32) := by decide
theorem kb_17 : (Int8.ofInt (17)).toInt32 = (17 : Int32) := by decide
theorem kb_20 : (Int8.ofInt (20)).toInt32 = (20 : Int32) := by decide
theorem kb_21 : (Int8.ofInt (21)).toInt32 = (21 : Int32) := by decide
theorem kb_49 : (Int8.ofInt (49)).toInt32 = (49 : Int32) := by decide
theorem kb_50 : (Int8.ofInt (50)).toInt32 = (50 : Int32) := by decide
theorem kb_6 : (Int8.ofInt (6)).toInt32 = (6 : Int32) := by decide
theorem kb_60 : (Int8.ofInt (60)).toInt32 = (60 : Int32) := by decide
theorem kb_63 : (Int8.ofInt (63)).toInt32 = (63 : Int32) := by decide
theorem kb_64 : (Int8.ofInt (64)).toInt32 = (64 : Int32) := by decide
theorem kb_7 : (Int8.ofInt (7)).toInt32 = (7 : Int32) := by decide
theorem kb_8 : (Int8.ofInt (8)).toInt32 = (8 : Int32) := by decide
theorem kb_80 : (Int8.ofInt (80)).toInt32 = (80 : Int32) := by decide
theorem kb_9 : (Int8.ofInt (9)).toInt32 = (9 : Int32) := by decide
theorem kb_m100 : (Int8.ofInt (-100)).toInt32 = (-100 : Int32) := by decide
theorem ki_0 : Int32.ofInt (0) = (0 : Int32) := by decide
theorem ki_1 : Int32.ofInt (1) = (1 : Int32) := by decide
theorem ki_10 : Int32.ofInt (10) = (10 : Int32) := by decide
theorem ki_100 : Int32.ofInt (100) = (100 : Int32) := by decide
theorem ki_2 : Int32.ofInt (2) = (2 : Int32) := by decide
theorem ki_3 : Int32.ofInt (3) = (3 : Int32) := by decide
theorem ki_4 : Int32.ofInt (4) = (4 : Int32) := by decide
theorem ki_5 : Int32.ofInt (5) = (5 : Int32) := by decide
theorem ki_m1 : Int32.ofInt (-1) = (-1 : Int32) := by decide
theorem ks_1000 : (Int16.ofInt (1000)).toInt32 = (1000 : Int32) := by decide
theorem ks_1024 : (Int16.ofInt (1024)).toInt32 = (1024 : Int32) := by decide
theorem ks_160 : (Int16.ofInt (160)).toInt32 = (160 : Int32) := by decide
theorem ks_1600 : (Int16.ofInt (1600)).toInt32 = (1600 : Int32) := by decide
theorem ks_16807 : (Int16.ofInt (16807)).toInt32 = (16807 : Int32) := by decide
theorem ks_200 : (Int16.ofInt (200)).toInt32 = (200 : Int32) := by decide
theorem ks_20000 : (Int16.ofInt (20000)).toInt32 = (20000 : Int32) := by decide
theorem ks_2400 : (Int16.ofInt (2400)).toInt32 = (2400 : Int32) := by decide
theorem ks_255 : (Int16.ofInt (255)).toInt32 = (255 : Int32) := by decide
theorem ks_256 : (Int16.ofInt (256)).toInt32 = (256 : Int32) := by decide
theorem ks_735 : (Int16.ofInt (735)).toInt32 = (735 : Int32) := by decide
theorem ks_m1000 : (Int16.ofInt (-1000)).toInt32 = (-1000 : Int32) := by decide
theorem ks_m200 : (Int16.ofInt (-200)).toInt32 = (-200 : Int32) := by decide
theorem ks_m20000 : (Int16.ofInt (-20000)).toInt32 = (-20000 : Int32) := by decide
theorem w_oc : Cond.code Lib.objectInit ⟨#[0xb1]⟩ 1 none ∈ lw_tbl := List.mem_of_getElem? (i := 32) (by decide +kernel)
theorem w_oi : Cond.instanceMethod Lib.objectInit ∈ lw_tbl := List.mem_of_getElem? (i := 31) (by decide +kernel)
theorem wa_char : Cond.arrayClass .char ∈ lw_tbl := List.mem_of_getElem? (i := 163) (by decide +kernel)
theorem wa_int : Cond.arrayClass .int ∈ lw_tbl := List.mem_of_getElem? (i := 80) (by decide +kernel)
theorem wc_RJ6_265 : Cond.constant RJ6 265 (1431655765) ∈ lw_tbl := List.mem_of_getElem? (i := 355) (by decide +kernel)
theorem wc_RJ6_266 : Cond.constant RJ6 266 (858993459) ∈ lw_tbl := List.mem_of_getElem? (i := 356) (by decide +kernel)
theorem wc_RJ6_267 : Cond.constant RJ6 267 (252645135) ∈ lw_tbl := List.mem_of_getElem? (i := 357) (by decide +kernel)
theorem wc_RL_23 : Cond.constant RL 23 (32768) ∈ lw_tbl := List.mem_of_getElem? (i := 445) (by decide +kernel)
theorem wc_RL_24 : Cond.constant RL 24 (524288) ∈ lw_tbl := List.mem_of_getElem? (i := 446) (by decide +kernel)
theorem wc_RL_43 : Cond.constant RL 43 (-10000004) ∈ lw_tbl := List.mem_of_getElem? (i := 469) (by decide +kernel)
theorem wc_RL_69 : Cond.constantLong RL 69 (7) ∈ lw_tbl := List.mem_of_getElem? (i := 541) (by decide +kernel)
theorem wc_RL_7 : Cond.constant RL 7 (2147483647) ∈ lw_tbl := List.mem_of_getElem? (i := 441) (by decide +kernel)
theorem wc_RL_71 : Cond.constantLong RL 71 (31) ∈ lw_tbl := List.mem_of_getElem? (i := 542) (by decide +kernel)
theorem wc_RL_76 : Cond.constant RL 76 (-10000001) ∈ lw_tbl := List.mem_of_getElem? (i := 537) (by decide +kernel)
theorem wc_RL_93 : Cond.constant RL 93 (-10000002) ∈ lw_tbl := List.mem_of_getElem? (i := 558) (by decide +kernel)
theorem wc_RX1_104 : Cond.constant RX1 104 (65535) ∈ lw_tbl := List.mem_of_getElem? (i := 585) (by decide +kernel)
theorem wc_RX7_163 : Cond.constant RX7 163 (-10000004) ∈ lw_tbl := List.mem_of_getElem? (i := 465) (by decide +kernel)
theorem wc_RX7_237 : Cond.constant RX7 237 (2097151) ∈ lw_tbl := List.mem_of_getElem? (i := 610) (by decide +kernel)
theorem wc_RX7_60 : Cond.constant RX7 60 (-10000001) ∈ lw_tbl := List.mem_of_getElem? (i := 281) (by decide +kernel)
theorem wc_RX7_74 : Cond.constant RX7 74 (-10000002) ∈ lw_tbl := List.mem_of_getElem? (i := 287) (by decide +kernel)
theorem wc_RX7_93 : Cond.constant RX7 93 (-10000003) ∈ lw_tbl := List.mem_of_getElem? (i := 428) (by decide +kernel)
theorem wd_J6_bitCount_0f7a4 : Cond.code yJ6_bitCount_0f7a4 cJ6_bitCount_0f7a4 1 (some .int) ∈ lw_tbl := List.mem_of_getElem? (i := 354) (by decide +kernel)
theorem wd_J9_abs_0f7a4 : Cond.code yJ9_abs_0f7a4 cJ9_abs_0f7a4 1 (some .int) ∈ lw_tbl := List.mem_of_getElem? (i := 423) (by decide +kernel)
theorem wd_J9_floorDiv_7cf53 : Cond.code yJ9_floorDiv_7cf53 cJ9_floorDiv_7cf53 3 (some .int) ∈ lw_tbl := List.mem_of_getElem? (i := 381) (by decide +kernel)
theorem wd_J9_max_7cf53 : Cond.code yJ9_max_7cf53 cJ9_max_7cf53 2 (some .int) ∈ lw_tbl := List.mem_of_getElem? (i := 387) (by decide +kernel)
theorem wd_J9_min_7cf53 : Cond.code yJ9_min_7cf53 cJ9_min_7cf53 2 (some .int) ∈ lw_tbl := List.mem_of_getElem? (i := 384) (by decide +kernel)
theorem wd_L_bits : Cond.code yL_bits cL_bits 3 (some .int) ∈ lw_tbl := List.mem_of_getElem? (i := 477) (by decide +kernel)
theorem wd_L_blinded : Cond.code yL_blinded cL_blinded 3 (some .int) ∈ lw_tbl := List.mem_of_getElem? (i := 495) (by decide +kernel)
theorem wd_L_cell : Cond.code yL_cell cL_cell 2 (some .int) ∈ lw_tbl := List.mem_of_getElem? (i := 440) (by decide +kernel)
theorem wd_L_folded : Cond.code yL_folded cL_folded 5 (some .long) ∈ lw_tbl := List.mem_of_getElem? (i := 540) (by decide +kernel)
theorem wd_L_frameHolds : Cond.code yL_frameHolds cL_frameHolds 12 (some .boolean) ∈ lw_tbl := List.mem_of_getElem? (i := 460) (by decide +kernel)
theorem wd_L_has : Cond.code yL_has cL_has 2 (some .boolean) ∈ lw_tbl := List.mem_of_getElem? (i := 468) (by decide +kernel)
theorem wd_X0_become : Cond.code yX0_become cX0_become 3 none ∈ lw_tbl := List.mem_of_getElem? (i := 323) (by decide +kernel)
theorem wd_X0_init : Cond.code yX0_init cX0_init 1 none ∈ lw_tbl := List.mem_of_getElem? (i := 84) (by decide +kernel)
theorem wd_X0_keepRow : Cond.code yX0_keepRow cX0_keepRow 7 none ∈ lw_tbl := List.mem_of_getElem? (i := 527) (by decide +kernel)
theorem wd_X0_pixelAt : Cond.code yX0_pixelAt cX0_pixelAt 3 (some .int) ∈ lw_tbl := List.mem_of_getElem? (i := 419) (by decide +kernel)
theorem wd_X1_addDemand : Cond.code yX1_addDemand cX1_addDemand 11 none ∈ lw_tbl := List.mem_of_getElem? (i := 581) (by decide +kernel)
theorem wd_X1_answer : Cond.code yX1_answer cX1_answer 2 (some .int) ∈ lw_tbl := List.mem_of_getElem? (i := 605) (by decide +kernel)
theorem wd_X1_gatherDemands : Cond.code yX1_gatherDemands cX1_gatherDemands 6 none ∈ lw_tbl := List.mem_of_getElem? (i := 574) (by decide +kernel)
theorem wd_X1_init : Cond.code yX1_init cX1_init 1 none ∈ lw_tbl := List.mem_of_getElem? (i := 211) (by decide +kernel)
theorem wd_X1_isVain : Cond.code yX1_isVain cX1_isVain 1 (some .boolean) ∈ lw_tbl := List.mem_of_getElem? (i := 601) (by decide +kernel)
theorem wd_X1_keepMotion : Cond.code yX1_keepMotion cX1_keepMotion 3 none ∈ lw_tbl := List.mem_of_getElem? (i := 597) (by decide +kernel)
theorem wd_X1_meetsDemands : Cond.code yX1_meetsDemands cX1_meetsDemands 6 (some .boolean) ∈ lw_tbl := List.mem_of_getElem? (i := 592) (by decide +kernel)
theorem wd_X1_run : Cond.code yX1_run cX1_run 6 none ∈ lw_tbl := List.mem_of_getElem? (i := 569) (by decide +kernel)
theorem wd_X2_init : Cond.code yX2_init cX2_init 1 none ∈ lw_tbl := List.mem_of_getElem? (i := 151) (by decide +kernel)
theorem wd_X3_addThing : Cond.code yX3_addThing cX3_addThing 8 none ∈ lw_tbl := List.mem_of_getElem? (i := 457) (by decide +kernel)
theorem wd_X3_become : Cond.code yX3_become cX3_become 3 none ∈ lw_tbl := List.mem_of_getElem? (i := 299) (by decide +kernel)
theorem wd_X3_becomeInFrames : Cond.code yX3_becomeInFrames cX3_becomeInFrames 5 none ∈ lw_tbl := List.mem_of_getElem? (i := 315) (by decide +kernel)
theorem wd_X3_becomeInThings : Cond.code yX3_becomeInThings cX3_becomeInThings 5 none ∈ lw_tbl := List.mem_of_getElem? (i := 303) (by decide +kernel)
theorem wd_X3_changeSetting : Cond.code yX3_changeSetting cX3_changeSetting 3 none ∈ lw_tbl := List.mem_of_getElem? (i := 331) (by decide +kernel)
theorem wd_X3_dropFrame : Cond.code yX3_dropFrame cX3_dropFrame 4 none ∈ lw_tbl := List.mem_of_getElem? (i := 516) (by decide +kernel)
theorem wd_X3_edgesIn : Cond.code yX3_edgesIn cX3_edgesIn 7 (some .int) ∈ lw_tbl := List.mem_of_getElem? (i := 415) (by decide +kernel)
theorem wd_X3_frameAt : Cond.code yX3_frameAt cX3_frameAt 2 (some (.object "RowVotes$Frame")) ∈ lw_tbl := List.mem_of_getElem? (i := 319) (by decide +kernel)
theorem wd_X3_init : Cond.code yX3_init cX3_init 2 none ∈ lw_tbl := List.mem_of_getElem? (i := 37) (by decide +kernel)
theorem wd_X3_paint : Cond.code yX3_paint cX3_paint 10 none ∈ lw_tbl := List.mem_of_getElem? (i := 369) (by decide +kernel)
theorem wd_X3_paintOver : Cond.code yX3_paintOver cX3_paintOver 5 none ∈ lw_tbl := List.mem_of_getElem? (i := 391) (by decide +kernel)
theorem wd_X3_percentAt : Cond.code yX3_percentAt cX3_percentAt 2 (some .int) ∈ lw_tbl := List.mem_of_getElem? (i := 396) (by decide +kernel)
theorem wd_X3_photograph : Cond.code yX3_photograph cX3_photograph 7 none ∈ lw_tbl := List.mem_of_getElem? (i := 520) (by decide +kernel)
theorem wd_X3_setting : Cond.code yX3_setting cX3_setting 2 (some .int) ∈ lw_tbl := List.mem_of_getElem? (i := 327) (by decide +kernel)
theorem wd_X3_takeFrame : Cond.code yX3_takeFrame cX3_takeFrame 3 none ∈ lw_tbl := List.mem_of_getElem? (i := 512) (by decide +kernel)
theorem wd_X3_thingAt : Cond.code yX3_thingAt cX3_thingAt 2 (some (.object "RowVotes$Thing")) ∈ lw_tbl := List.mem_of_getElem? (i := 307) (by decide +kernel)
theorem wd_X3_timeOfRow : Cond.code yX3_timeOfRow cX3_timeOfRow 3 (some .int) ∈ lw_tbl := List.mem_of_getElem? (i := 485) (by decide +kernel)
theorem wd_X3_weightOf : Cond.code yX3_weightOf cX3_weightOf 2 (some .int) ∈ lw_tbl := List.mem_of_getElem? (i := 503) (by decide +kernel)
theorem wd_X4_init : Cond.code yX4_init cX4_init 1 none ∈ lw_tbl := List.mem_of_getElem? (i := 145) (by decide +kernel)
theorem wd_X5_become : Cond.code yX5_become cX5_become 2 none ∈ lw_tbl := List.mem_of_getElem? (i := 311) (by decide +kernel)
theorem wd_X5_changeSpeed : Cond.code yX5_changeSpeed cX5_changeSpeed 3 none ∈ lw_tbl := List.mem_of_getElem? (i := 340) (by decide +kernel)
theorem wd_X5_init : Cond.code yX5_init cX5_init 1 none ∈ lw_tbl := List.mem_of_getElem? (i := 51) (by decide +kernel)
theorem wd_X5_isIn : Cond.code yX5_isIn cX5_isIn 2 (some .boolean) ∈ lw_tbl := List.mem_of_getElem? (i := 374) (by decide +kernel)
theorem wd_X5_numberOf : Cond.code yX5_numberOf cX5_numberOf 2 (some .int) ∈ lw_tbl := List.mem_of_getElem? (i := 554) (by decide +kernel)
theorem wd_X5_positionAt : Cond.code yX5_positionAt cX5_positionAt 2 (some .int) ∈ lw_tbl := List.mem_of_getElem? (i := 344) (by decide +kernel)
theorem wd_X6_init : Cond.code yX6_init cX6_init 1 none ∈ lw_tbl := List.mem_of_getElem? (i := 192) (by decide +kernel)
theorem wd_X7_blind : Cond.code yX7_blind cX7_blind 3 (some .int) ∈ lw_tbl := List.mem_of_getElem? (i := 348) (by decide +kernel)
theorem wd_X7_columnsCovered : Cond.code yX7_columnsCovered cX7_columnsCovered 4 (some .int) ∈ lw_tbl := List.mem_of_getElem? (i := 378) (by decide +kernel)
theorem wd_X7_count : Cond.code yX7_count cX7_count 2 (some .int) ∈ lw_tbl := List.mem_of_getElem? (i := 432) (by decide +kernel)
theorem wd_X7_darkPeriods : Cond.code yX7_darkPeriods cX7_darkPeriods 4 (some .int) ∈ lw_tbl := List.mem_of_getElem? (i := 618) (by decide +kernel)
theorem wd_X7_dimmed : Cond.code yX7_dimmed cX7_dimmed 2 (some .int) ∈ lw_tbl := List.mem_of_getElem? (i := 402) (by decide +kernel)
theorem wd_X7_dropOldestState : Cond.code yX7_dropOldestState cX7_dropOldestState 3 none ∈ lw_tbl := List.mem_of_getElem? (i := 295) (by decide +kernel)
theorem wd_X7_edgeCountOf : Cond.code yX7_edgeCountOf cX7_edgeCountOf 4 (some .int) ∈ lw_tbl := List.mem_of_getElem? (i := 411) (by decide +kernel)
theorem wd_X7_edges : Cond.code yX7_edges cX7_edges 4 (some .int) ∈ lw_tbl := List.mem_of_getElem? (i := 464) (by decide +kernel)
theorem wd_X7_fitting : Cond.code yX7_fitting cX7_fitting 6 (some .int) ∈ lw_tbl := List.mem_of_getElem? (i := 481) (by decide +kernel)
theorem wd_X7_forget : Cond.code yX7_forget cX7_forget 2 (some .int) ∈ lw_tbl := List.mem_of_getElem? (i := 535) (by decide +kernel)
theorem wd_X7_frameOf : Cond.code yX7_frameOf cX7_frameOf 4 (some .int) ∈ lw_tbl := List.mem_of_getElem? (i := 406) (by decide +kernel)
theorem wd_X7_holds : Cond.code yX7_holds cX7_holds 2 (some .boolean) ∈ lw_tbl := List.mem_of_getElem? (i := 351) (by decide +kernel)
theorem wd_X7_isDark : Cond.code yX7_isDark cX7_isDark 3 (some .boolean) ∈ lw_tbl := List.mem_of_getElem? (i := 399) (by decide +kernel)
theorem wd_X7_isPlace : Cond.code yX7_isPlace cX7_isPlace 3 (some .boolean) ∈ lw_tbl := List.mem_of_getElem? (i := 365) (by decide +kernel)
theorem wd_X7_isWithin : Cond.code yX7_isWithin cX7_isWithin 3 (some .boolean) ∈ lw_tbl := List.mem_of_getElem? (i := 280) (by decide +kernel)
theorem wd_X7_motions : Cond.code yX7_motions cX7_motions 3 (some .int) ∈ lw_tbl := List.mem_of_getElem? (i := 565) (by decide +kernel)
theorem wd_X7_numberIn : Cond.code yX7_numberIn cX7_numberIn 2 (some .int) ∈ lw_tbl := List.mem_of_getElem? (i := 47) (by decide +kernel)
theorem wd_X7_periods : Cond.code yX7_periods cX7_periods 4 (some .int) ∈ lw_tbl := List.mem_of_getElem? (i := 609) (by decide +kernel)
theorem wd_X7_periodsFitting : Cond.code yX7_periodsFitting cX7_periodsFitting 7 (some .int) ∈ lw_tbl := List.mem_of_getElem? (i := 614) (by decide +kernel)
theorem wd_X7_pixel : Cond.code yX7_pixel cX7_pixel 5 (some .int) ∈ lw_tbl := List.mem_of_getElem? (i := 473) (by decide +kernel)
theorem wd_X7_recordState : Cond.code yX7_recordState cX7_recordState 1 none ∈ lw_tbl := List.mem_of_getElem? (i := 291) (by decide +kernel)
theorem wd_X7_rowFits : Cond.code yX7_rowFits cX7_rowFits 5 (some .boolean) ∈ lw_tbl := List.mem_of_getElem? (i := 489) (by decide +kernel)
theorem wd_X7_rowOf : Cond.code yX7_rowOf cX7_rowOf 3 (some .int) ∈ lw_tbl := List.mem_of_getElem? (i := 499) (by decide +kernel)
theorem wd_X7_set : Cond.code yX7_set cX7_set 4 (some .int) ∈ lw_tbl := List.mem_of_getElem? (i := 277) (by decide +kernel)
theorem wd_X7_shoot : Cond.code yX7_shoot cX7_shoot 1 (some .int) ∈ lw_tbl := List.mem_of_getElem? (i := 508) (by decide +kernel)
theorem wd_X7_shows : Cond.code yX7_shows cX7_shows 4 (some .int) ∈ lw_tbl := List.mem_of_getElem? (i := 361) (by decide +kernel)
theorem wd_X7_thing : Cond.code yX7_thing cX7_thing 7 (some .int) ∈ lw_tbl := List.mem_of_getElem? (i := 450) (by decide +kernel)
theorem wd_X7_thingOf : Cond.code yX7_thingOf cX7_thingOf 4 (some .int) ∈ lw_tbl := List.mem_of_getElem? (i := 549) (by decide +kernel)
theorem wd_X7_turn : Cond.code yX7_turn cX7_turn 5 (some .int) ∈ lw_tbl := List.mem_of_getElem? (i := 335) (by decide +kernel)
theorem wd_X7_undo : Cond.code yX7_undo cX7_undo 2 (some .int) ∈ lw_tbl := List.mem_of_getElem? (i := 437) (by decide +kernel)
theorem wd_X7_wrongOfThing : Cond.code yX7_wrongOfThing cX7_wrongOfThing 6 (some .int) ∈ lw_tbl := List.mem_of_getElem? (i := 453) (by decide +kernel)
theorem wi_X0 : Cond.instantiable RX0 3 ∈ lw_tbl := List.mem_of_getElem? (i := 81) (by decide +kernel)
theorem wi_X1 : Cond.instantiable RX1 11 ∈ lw_tbl := List.mem_of_getElem? (i := 208) (by decide +kernel)
theorem wi_X2 : Cond.instantiable RX2 4 ∈ lw_tbl := List.mem_of_getElem? (i := 148) (by decide +kernel)
theorem wi_X3 : Cond.instantiable RX3 10 ∈ lw_tbl := List.mem_of_getElem? (i := 34) (by decide +kernel)
theorem wi_X4 : Cond.instantiable RX4 10 ∈ lw_tbl := List.mem_of_getElem? (i := 142) (by decide +kernel)
theorem wi_X5 : Cond.instantiable RX5 6 ∈ lw_tbl := List.mem_of_getElem? (i := 48) (by decide +kernel)
theorem wi_X6 : Cond.instantiable RX6 4 ∈ lw_tbl := List.mem_of_getElem? (i := 189) (by decide +kernel)
theorem wl_RX3_15 : Cond.classLink RX3 15 RX5 ∈ lw_tbl := List.mem_of_getElem? (i := 39) (by decide +kernel)
theorem wl_RX3_21 : Cond.classLink RX3 21 RX0 ∈ lw_tbl := List.mem_of_getElem? (i := 41) (by decide +kernel)
theorem wl_RX4_15 : Cond.classLink RX4 15 RX2 ∈ lw_tbl := List.mem_of_getElem? (i := 147) (by decide +kernel)
theorem wl_RX7_24 : Cond.classLink RX7 24 RX4 ∈ lw_tbl := List.mem_of_getElem? (i := 141) (by decide +kernel)
theorem wl_RX7_31 : Cond.classLink RX7 31 RX6 ∈ lw_tbl := List.mem_of_getElem? (i := 188) (by decide +kernel)
theorem wl_RX7_38 : Cond.classLink RX7 38 RX1 ∈ lw_tbl := List.mem_of_getElem? (i := 207) (by decide +kernel)
theorem wl_RX7_45 : Cond.classLink RX7 45 RX0 ∈ lw_tbl := List.mem_of_getElem? (i := 247) (by decide +kernel)
theorem wl_RX7_9 : Cond.classLink RX7 9 RX3 ∈ lw_tbl := List.mem_of_getElem? (i := 33) (by decide +kernel)
theorem wm_RL_14 : Cond.methodLink RL 14 yL_cell ∈ lw_tbl := List.mem_of_getElem? (i := 438) (by decide +kernel)
theorem wm_RL_20 : Cond.methodLink RL 20 yX7_set ∈ lw_tbl := List.mem_of_getElem? (i := 274) (by decide +kernel)
theorem wm_RL_25 : Cond.methodLink RL 25 yX7_thing ∈ lw_tbl := List.mem_of_getElem? (i := 447) (by decide +kernel)
theorem wm_RL_29 : Cond.methodLink RL 29 yX7_count ∈ lw_tbl := List.mem_of_getElem? (i := 429) (by decide +kernel)
theorem wm_RL_33 : Cond.methodLink RL 33 yX7_frameOf ∈ lw_tbl := List.mem_of_getElem? (i := 403) (by decide +kernel)
theorem wm_RL_36 : Cond.methodLink RL 36 yX7_edges ∈ lw_tbl := List.mem_of_getElem? (i := 461) (by decide +kernel)
theorem wm_RL_39 : Cond.methodLink RL 39 yL_has ∈ lw_tbl := List.mem_of_getElem? (i := 466) (by decide +kernel)
theorem wm_RL_44 : Cond.methodLink RL 44 yX7_pixel ∈ lw_tbl := List.mem_of_getElem? (i := 470) (by decide +kernel)
theorem wm_RL_48 : Cond.methodLink RL 48 yL_bits ∈ lw_tbl := List.mem_of_getElem? (i := 475) (by decide +kernel)
theorem wm_RL_51 : Cond.methodLink RL 51 yX7_fitting ∈ lw_tbl := List.mem_of_getElem? (i := 478) (by decide +kernel)
theorem wm_RL_54 : Cond.methodLink RL 54 yL_blinded ∈ lw_tbl := List.mem_of_getElem? (i := 493) (by decide +kernel)
theorem wm_RL_58 : Cond.methodLink RL 58 yX7_shoot ∈ lw_tbl := List.mem_of_getElem? (i := 505) (by decide +kernel)
theorem wm_RL_62 : Cond.methodLink RL 62 yX7_shows ∈ lw_tbl := List.mem_of_getElem? (i := 358) (by decide +kernel)
theorem wm_RL_65 : Cond.methodLink RL 65 yL_frameHolds ∈ lw_tbl := List.mem_of_getElem? (i := 458) (by decide +kernel)
theorem wm_RL_73 : Cond.methodLink RL 73 yX7_forget ∈ lw_tbl := List.mem_of_getElem? (i := 532) (by decide +kernel)
theorem wm_RL_77 : Cond.methodLink RL 77 yL_folded ∈ lw_tbl := List.mem_of_getElem? (i := 538) (by decide +kernel)
theorem wm_RL_8 : Cond.methodLink RL 8 yX7_rowOf ∈ lw_tbl := List.mem_of_getElem? (i := 496) (by decide +kernel)
theorem wm_RL_81 : Cond.methodLink RL 81 yX7_undo ∈ lw_tbl := List.mem_of_getElem? (i := 434) (by decide +kernel)
theorem wm_RL_84 : Cond.methodLink RL 84 yX7_thingOf ∈ lw_tbl := List.mem_of_getElem? (i := 546) (by decide +kernel)
theorem wm_RL_87 : Cond.methodLink RL 87 yX7_turn ∈ lw_tbl := List.mem_of_getElem? (i := 332) (by decide +kernel)
theorem wm_RL_90 : Cond.methodLink RL 90 yX7_blind ∈ lw_tbl := List.mem_of_getElem? (i := 345) (by decide +kernel)
theorem wm_RL_94 : Cond.methodLink RL 94 yX7_motions ∈ lw_tbl := List.mem_of_getElem? (i := 562) (by decide +kernel)
theorem wm_RL_97 : Cond.methodLink RL 97 yX7_periods ∈ lw_tbl := List.mem_of_getElem? (i := 606) (by decide +kernel)
theorem wm_RX0_3 : Cond.methodLink RX0 3 Lib.objectInit ∈ lw_tbl := List.mem_of_getElem? (i := 85) (by decide +kernel)
theorem wm_RX1_100 : Cond.methodLink RX1 100 yX3_paint ∈ lw_tbl := List.mem_of_getElem? (i := 584) (by decide +kernel)
theorem wm_RX1_105 : Cond.methodLink RX1 105 yX0_pixelAt ∈ lw_tbl := List.mem_of_getElem? (i := 586) (by decide +kernel)
theorem wm_RX1_27 : Cond.methodLink RX1 27 yX3_thingAt ∈ lw_tbl := List.mem_of_getElem? (i := 570) (by decide +kernel)
theorem wm_RX1_3 : Cond.methodLink RX1 3 Lib.objectInit ∈ lw_tbl := List.mem_of_getElem? (i := 212) (by decide +kernel)
theorem wm_RX1_37 : Cond.methodLink RX1 37 yX1_gatherDemands ∈ lw_tbl := List.mem_of_getElem? (i := 571) (by decide +kernel)
theorem wm_RX1_46 : Cond.methodLink RX1 46 yX1_meetsDemands ∈ lw_tbl := List.mem_of_getElem? (i := 589) (by decide +kernel)
theorem wm_RX1_50 : Cond.methodLink RX1 50 yX1_keepMotion ∈ lw_tbl := List.mem_of_getElem? (i := 594) (by decide +kernel)
theorem wm_RX1_72 : Cond.methodLink RX1 72 yX3_frameAt ∈ lw_tbl := List.mem_of_getElem? (i := 575) (by decide +kernel)
theorem wm_RX1_76 : Cond.methodLink RX1 76 yX3_setting ∈ lw_tbl := List.mem_of_getElem? (i := 576) (by decide +kernel)
theorem wm_RX1_89 : Cond.methodLink RX1 89 yX1_addDemand ∈ lw_tbl := List.mem_of_getElem? (i := 578) (by decide +kernel)
theorem wm_RX1_93 : Cond.methodLink RX1 93 yX3_timeOfRow ∈ lw_tbl := List.mem_of_getElem? (i := 582) (by decide +kernel)
theorem wm_RX1_97 : Cond.methodLink RX1 97 yX3_percentAt ∈ lw_tbl := List.mem_of_getElem? (i := 583) (by decide +kernel)
theorem wm_RX2_3 : Cond.methodLink RX2 3 Lib.objectInit ∈ lw_tbl := List.mem_of_getElem? (i := 152) (by decide +kernel)
theorem wm_RX3_102 : Cond.methodLink RX3 102 yX3_photograph ∈ lw_tbl := List.mem_of_getElem? (i := 517) (by decide +kernel)
theorem wm_RX3_106 : Cond.methodLink RX3 106 yX3_setting ∈ lw_tbl := List.mem_of_getElem? (i := 370) (by decide +kernel)
theorem wm_RX3_116 : Cond.methodLink RX3 116 yX3_timeOfRow ∈ lw_tbl := List.mem_of_getElem? (i := 521) (by decide +kernel)
theorem wm_RX3_120 : Cond.methodLink RX3 120 yX3_paint ∈ lw_tbl := List.mem_of_getElem? (i := 522) (by decide +kernel)
theorem wm_RX3_124 : Cond.methodLink RX3 124 yX3_percentAt ∈ lw_tbl := List.mem_of_getElem? (i := 523) (by decide +kernel)
theorem wm_RX3_127 : Cond.methodLink RX3 127 yX0_keepRow ∈ lw_tbl := List.mem_of_getElem? (i := 524) (by decide +kernel)
theorem wm_RX3_135 : Cond.methodLink RX3 135 yX5_isIn ∈ lw_tbl := List.mem_of_getElem? (i := 371) (by decide +kernel)
theorem wm_RX3_139 : Cond.methodLink RX3 139 yX5_positionAt ∈ lw_tbl := List.mem_of_getElem? (i := 375) (by decide +kernel)
theorem wm_RX3_146 : Cond.methodLink RX3 146 yX3_paintOver ∈ lw_tbl := List.mem_of_getElem? (i := 388) (by decide +kernel)
theorem wm_RX3_150 : Cond.methodLink RX3 150 yX0_pixelAt ∈ lw_tbl := List.mem_of_getElem? (i := 416) (by decide +kernel)
theorem wm_RX3_153 : Cond.methodLink RX3 153 yJ9_abs_0f7a4 ∈ lw_tbl := List.mem_of_getElem? (i := 421) (by decide +kernel)
theorem wm_RX3_158 : Cond.methodLink RX3 158 yJ9_max_7cf53 ∈ lw_tbl := List.mem_of_getElem? (i := 504) (by decide +kernel)
theorem wm_RX3_3 : Cond.methodLink RX3 3 Lib.objectInit ∈ lw_tbl := List.mem_of_getElem? (i := 38) (by decide +kernel)
theorem wm_RX3_42 : Cond.methodLink RX3 42 yX3_becomeInThings ∈ lw_tbl := List.mem_of_getElem? (i := 300) (by decide +kernel)
theorem wm_RX3_46 : Cond.methodLink RX3 46 yX3_becomeInFrames ∈ lw_tbl := List.mem_of_getElem? (i := 312) (by decide +kernel)
theorem wm_RX3_59 : Cond.methodLink RX3 59 yX3_thingAt ∈ lw_tbl := List.mem_of_getElem? (i := 304) (by decide +kernel)
theorem wm_RX3_63 : Cond.methodLink RX3 63 yX5_become ∈ lw_tbl := List.mem_of_getElem? (i := 308) (by decide +kernel)
theorem wm_RX3_73 : Cond.methodLink RX3 73 yX3_frameAt ∈ lw_tbl := List.mem_of_getElem? (i := 316) (by decide +kernel)
theorem wm_RX3_77 : Cond.methodLink RX3 77 yX0_become ∈ lw_tbl := List.mem_of_getElem? (i := 320) (by decide +kernel)
theorem wm_RX3_98 : Cond.methodLink RX3 98 yX3_dropFrame ∈ lw_tbl := List.mem_of_getElem? (i := 513) (by decide +kernel)
theorem wm_RX4_3 : Cond.methodLink RX4 3 Lib.objectInit ∈ lw_tbl := List.mem_of_getElem? (i := 146) (by decide +kernel)
theorem wm_RX5_1 : Cond.methodLink RX5 1 Lib.objectInit ∈ lw_tbl := List.mem_of_getElem? (i := 52) (by decide +kernel)
theorem wm_RX5_28 : Cond.methodLink RX5 28 yX5_positionAt ∈ lw_tbl := List.mem_of_getElem? (i := 341) (by decide +kernel)
theorem wm_RX6_3 : Cond.methodLink RX6 3 Lib.objectInit ∈ lw_tbl := List.mem_of_getElem? (i := 193) (by decide +kernel)
theorem wm_RX7_11 : Cond.methodLink RX7 11 yX3_init ∈ lw_tbl := List.mem_of_getElem? (i := 35) (by decide +kernel)
theorem wm_RX7_110 : Cond.methodLink RX7 110 yX5_changeSpeed ∈ lw_tbl := List.mem_of_getElem? (i := 337) (by decide +kernel)
theorem wm_RX7_113 : Cond.methodLink RX7 113 yX5_positionAt ∈ lw_tbl := List.mem_of_getElem? (i := 550) (by decide +kernel)
theorem wm_RX7_116 : Cond.methodLink RX7 116 yX5_numberOf ∈ lw_tbl := List.mem_of_getElem? (i := 551) (by decide +kernel)
theorem wm_RX7_122 : Cond.methodLink RX7 122 yX7_holds ∈ lw_tbl := List.mem_of_getElem? (i := 349) (by decide +kernel)
theorem wm_RX7_126 : Cond.methodLink RX7 126 yJ6_bitCount_0f7a4 ∈ lw_tbl := List.mem_of_getElem? (i := 352) (by decide +kernel)
theorem wm_RX7_131 : Cond.methodLink RX7 131 yX7_isPlace ∈ lw_tbl := List.mem_of_getElem? (i := 362) (by decide +kernel)
theorem wm_RX7_134 : Cond.methodLink RX7 134 yX3_paint ∈ lw_tbl := List.mem_of_getElem? (i := 366) (by decide +kernel)
theorem wm_RX7_138 : Cond.methodLink RX7 138 yX3_percentAt ∈ lw_tbl := List.mem_of_getElem? (i := 393) (by decide +kernel)
theorem wm_RX7_141 : Cond.methodLink RX7 141 yX7_dimmed ∈ lw_tbl := List.mem_of_getElem? (i := 400) (by decide +kernel)
theorem wm_RX7_145 : Cond.methodLink RX7 145 yX3_takeFrame ∈ lw_tbl := List.mem_of_getElem? (i := 509) (by decide +kernel)
theorem wm_RX7_149 : Cond.methodLink RX7 149 yX3_frameAt ∈ lw_tbl := List.mem_of_getElem? (i := 407) (by decide +kernel)
theorem wm_RX7_153 : Cond.methodLink RX7 153 yX3_dropFrame ∈ lw_tbl := List.mem_of_getElem? (i := 536) (by decide +kernel)
theorem wm_RX7_159 : Cond.methodLink RX7 159 yX7_edgeCountOf ∈ lw_tbl := List.mem_of_getElem? (i := 408) (by decide +kernel)
theorem wm_RX7_164 : Cond.methodLink RX7 164 yX0_pixelAt ∈ lw_tbl := List.mem_of_getElem? (i := 474) (by decide +kernel)
theorem wm_RX7_167 : Cond.methodLink RX7 167 yX3_edgesIn ∈ lw_tbl := List.mem_of_getElem? (i := 412) (by decide +kernel)
theorem wm_RX7_201 : Cond.methodLink RX7 201 yX3_weightOf ∈ lw_tbl := List.mem_of_getElem? (i := 500) (by decide +kernel)
theorem wm_RX7_226 : Cond.methodLink RX7 226 yX1_run ∈ lw_tbl := List.mem_of_getElem? (i := 566) (by decide +kernel)
theorem wm_RX7_230 : Cond.methodLink RX7 230 yX1_isVain ∈ lw_tbl := List.mem_of_getElem? (i := 598) (by decide +kernel)
theorem wm_RX7_234 : Cond.methodLink RX7 234 yX1_answer ∈ lw_tbl := List.mem_of_getElem? (i := 602) (by decide +kernel)
theorem wm_RX7_238 : Cond.methodLink RX7 238 yX7_periodsFitting ∈ lw_tbl := List.mem_of_getElem? (i := 611) (by decide +kernel)
theorem wm_RX7_241 : Cond.methodLink RX7 241 yX3_timeOfRow ∈ lw_tbl := List.mem_of_getElem? (i := 482) (by decide +kernel)
theorem wm_RX7_244 : Cond.methodLink RX7 244 yX7_rowFits ∈ lw_tbl := List.mem_of_getElem? (i := 486) (by decide +kernel)
theorem wm_RX7_251 : Cond.methodLink RX7 251 yX7_isDark ∈ lw_tbl := List.mem_of_getElem? (i := 433) (by decide +kernel)
theorem wm_RX7_257 : Cond.methodLink RX7 257 yX3_become ∈ lw_tbl := List.mem_of_getElem? (i := 296) (by decide +kernel)
theorem wm_RX7_296 : Cond.methodLink RX7 296 yX7_dropOldestState ∈ lw_tbl := List.mem_of_getElem? (i := 292) (by decide +kernel)
theorem wm_RX7_299 : Cond.methodLink RX7 299 yX7_darkPeriods ∈ lw_tbl := List.mem_of_getElem? (i := 615) (by decide +kernel)
theorem wm_RX7_3 : Cond.methodLink RX7 3 Lib.objectInit ∈ lw_tbl := List.mem_of_getElem? (i := 30) (by decide +kernel)
theorem wm_RX7_302 : Cond.methodLink RX7 302 yJ9_floorDiv_7cf53 ∈ lw_tbl := List.mem_of_getElem? (i := 379) (by decide +kernel)
theorem wm_RX7_307 : Cond.methodLink RX7 307 yJ9_min_7cf53 ∈ lw_tbl := List.mem_of_getElem? (i := 382) (by decide +kernel)
theorem wm_RX7_310 : Cond.methodLink RX7 310 yJ9_max_7cf53 ∈ lw_tbl := List.mem_of_getElem? (i := 385) (by decide +kernel)
theorem wm_RX7_56 : Cond.methodLink RX7 56 yX7_isWithin ∈ lw_tbl := List.mem_of_getElem? (i := 278) (by decide +kernel)
theorem wm_RX7_64 : Cond.methodLink RX7 64 yX7_numberIn ∈ lw_tbl := List.mem_of_getElem? (i := 284) (by decide +kernel)
theorem wm_RX7_75 : Cond.methodLink RX7 75 yX7_recordState ∈ lw_tbl := List.mem_of_getElem? (i := 288) (by decide +kernel)
theorem wm_RX7_78 : Cond.methodLink RX7 78 yX3_setting ∈ lw_tbl := List.mem_of_getElem? (i := 324) (by decide +kernel)
theorem wm_RX7_82 : Cond.methodLink RX7 82 yX3_changeSetting ∈ lw_tbl := List.mem_of_getElem? (i := 328) (by decide +kernel)
theorem wm_RX7_86 : Cond.methodLink RX7 86 yX7_wrongOfThing ∈ lw_tbl := List.mem_of_getElem? (i := 451) (by decide +kernel)
theorem wm_RX7_94 : Cond.methodLink RX7 94 yX3_addThing ∈ lw_tbl := List.mem_of_getElem? (i := 454) (by decide +kernel)
theorem wm_RX7_98 : Cond.methodLink RX7 98 yX3_thingAt ∈ lw_tbl := List.mem_of_getElem? (i := 336) (by decide +kernel)
theorem wn_RX0_22 : Cond.methodLinkNest RX0 22 yX7_numberIn "RowVotes" ∈ lw_tbl := List.mem_of_getElem? (i := 420) (by decide +kernel)
theorem wn_RX0_26 : Cond.methodLinkNest RX0 26 yX7_dimmed "RowVotes" ∈ lw_tbl := List.mem_of_getElem? (i := 528) (by decide +kernel)
theorem wn_RX1_109 : Cond.methodLinkNest RX1 109 yX7_numberIn "RowVotes" ∈ lw_tbl := List.mem_of_getElem? (i := 587) (by decide +kernel)
theorem wn_RX1_113 : Cond.methodLinkNest RX1 113 yX7_dimmed "RowVotes" ∈ lw_tbl := List.mem_of_getElem? (i := 588) (by decide +kernel)
theorem wn_RX1_116 : Cond.methodLinkNest RX1 116 yX7_columnsCovered "RowVotes" ∈ lw_tbl := List.mem_of_getElem? (i := 593) (by decide +kernel)
theorem wn_RX1_85 : Cond.methodLinkNest RX1 85 yX7_holds "RowVotes" ∈ lw_tbl := List.mem_of_getElem? (i := 577) (by decide +kernel)
theorem wn_RX3_112 : Cond.methodLinkNest RX3 112 yX7_holds "RowVotes" ∈ lw_tbl := List.mem_of_getElem? (i := 392) (by decide +kernel)
theorem wn_RX3_131 : Cond.methodLinkNest RX3 131 yX7_isDark "RowVotes" ∈ lw_tbl := List.mem_of_getElem? (i := 397) (by decide +kernel)
theorem wn_RX3_142 : Cond.methodLinkNest RX3 142 yX7_columnsCovered "RowVotes" ∈ lw_tbl := List.mem_of_getElem? (i := 376) (by decide +kernel)
theorem wn_RX3_36 : Cond.methodLinkNest RX3 36 yX7_numberIn "RowVotes" ∈ lw_tbl := List.mem_of_getElem? (i := 45) (by decide +kernel)
theorem wn_RX3_40 : Cond.methodLinkNest RX3 40 yX5_init "RowVotes" ∈ lw_tbl := List.mem_of_getElem? (i := 49) (by decide +kernel)
theorem wn_RX3_41 : Cond.methodLinkNest RX3 41 yX0_init "RowVotes" ∈ lw_tbl := List.mem_of_getElem? (i := 82) (by decide +kernel)
theorem wn_RX4_17 : Cond.methodLinkNest RX4 17 yX2_init "RowVotes" ∈ lw_tbl := List.mem_of_getElem? (i := 149) (by decide +kernel)
theorem wn_RX7_26 : Cond.methodLinkNest RX7 26 yX4_init "RowVotes" ∈ lw_tbl := List.mem_of_getElem? (i := 143) (by decide +kernel)
theorem wn_RX7_33 : Cond.methodLinkNest RX7 33 yX6_init "RowVotes" ∈ lw_tbl := List.mem_of_getElem? (i := 190) (by decide +kernel)
theorem wn_RX7_40 : Cond.methodLinkNest RX7 40 yX1_init "RowVotes" ∈ lw_tbl := List.mem_of_getElem? (i := 209) (by decide +kernel)
theorem wn_RX7_47 : Cond.methodLinkNest RX7 47 yX0_init "RowVotes" ∈ lw_tbl := List.mem_of_getElem? (i := 248) (by decide +kernel)
theorem ws_RX3_33 : Cond.fieldLinkNest RX3 33 RX7 (snm 3) "[I" "RowVotes" ∈ lw_tbl := List.mem_of_getElem? (i := 43) (by decide +kernel)
theorem ws_RX7_61 : Cond.fieldLink RX7 61 RX7 (snm 1) "[I" ∈ lw_tbl := List.mem_of_getElem? (i := 282) (by decide +kernel)
theorem ws_RX7_68 : Cond.fieldLink RX7 68 RX7 (snm 2) "[I" ∈ lw_tbl := List.mem_of_getElem? (i := 285) (by decide +kernel)
theorem wt_J6_bitCount_0f7a4 : Cond.static yJ6_bitCount_0f7a4 ∈ lw_tbl := List.mem_of_getElem? (i := 353) (by decide +kernel)
theorem wt_J9_abs_0f7a4 : Cond.static yJ9_abs_0f7a4 ∈ lw_tbl := List.mem_of_getElem? (i := 422) (by decide +kernel)
theorem wt_J9_floorDiv_7cf53 : Cond.static yJ9_floorDiv_7cf53 ∈ lw_tbl := List.mem_of_getElem? (i := 380) (by decide +kernel)
theorem wt_J9_max_7cf53 : Cond.static yJ9_max_7cf53 ∈ lw_tbl := List.mem_of_getElem? (i := 386) (by decide +kernel)
theorem wt_J9_min_7cf53 : Cond.static yJ9_min_7cf53 ∈ lw_tbl := List.mem_of_getElem? (i := 383) (by decide +kernel)
theorem wt_L_bits : Cond.static yL_bits ∈ lw_tbl := List.mem_of_getElem? (i := 476) (by decide +kernel)
theorem wt_L_blinded : Cond.static yL_blinded ∈ lw_tbl := List.mem_of_getElem? (i := 494) (by decide +kernel)
theorem wt_L_cell : Cond.static yL_cell ∈ lw_tbl := List.mem_of_getElem? (i := 439) (by decide +kernel)
theorem wt_L_folded : Cond.static yL_folded ∈ lw_tbl := List.mem_of_getElem? (i := 539) (by decide +kernel)
theorem wt_L_frameHolds : Cond.static yL_frameHolds ∈ lw_tbl := List.mem_of_getElem? (i := 459) (by decide +kernel)
theorem wt_L_has : Cond.static yL_has ∈ lw_tbl := List.mem_of_getElem? (i := 467) (by decide +kernel)
theorem wt_X7_columnsCovered : Cond.static yX7_columnsCovered ∈ lw_tbl := List.mem_of_getElem? (i := 377) (by decide +kernel)
theorem wt_X7_dimmed : Cond.static yX7_dimmed ∈ lw_tbl := List.mem_of_getElem? (i := 401) (by decide +kernel)
theorem wt_X7_holds : Cond.static yX7_holds ∈ lw_tbl := List.mem_of_getElem? (i := 350) (by decide +kernel)
theorem wt_X7_isDark : Cond.static yX7_isDark ∈ lw_tbl := List.mem_of_getElem? (i := 398) (by decide +kernel)
theorem wt_X7_isWithin : Cond.static yX7_isWithin ∈ lw_tbl := List.mem_of_getElem? (i := 279) (by decide +kernel)
theorem wt_X7_numberIn : Cond.static yX7_numberIn ∈ lw_tbl := List.mem_of_getElem? (i := 46) (by decide +kernel)
theorem wt_X7_wrongOfThing : Cond.static yX7_wrongOfThing ∈ lw_tbl := List.mem_of_getElem? (i := 452) (by decide +kernel)
theorem wv_X0_become : Cond.instanceMethod yX0_become ∈ lw_tbl := List.mem_of_getElem? (i := 321) (by decide +kernel)
theorem wv_X0_init : Cond.instanceMethod yX0_init ∈ lw_tbl := List.mem_of_getElem? (i := 83) (by decide +kernel)
theorem wv_X0_keepRow : Cond.instanceMethod yX0_keepRow ∈ lw_tbl := List.mem_of_getElem? (i := 525) (by decide +kernel)
theorem wv_X0_pixelAt : Cond.instanceMethod yX0_pixelAt ∈ lw_tbl := List.mem_of_getElem? (i := 417) (by decide +kernel)
theorem wv_X1_addDemand : Cond.instanceMethod yX1_addDemand ∈ lw_tbl := List.mem_of_getElem? (i := 580) (by decide +kernel)
theorem wv_X1_answer : Cond.instanceMethod yX1_answer ∈ lw_tbl := List.mem_of_getElem? (i := 603) (by decide +kernel)
theorem wv_X1_gatherDemands : Cond.instanceMethod yX1_gatherDemands ∈ lw_tbl := List.mem_of_getElem? (i := 573) (by decide +kernel)
theorem wv_X1_init : Cond.instanceMethod yX1_init ∈ lw_tbl := List.mem_of_getElem? (i := 210) (by decide +kernel)
theorem wv_X1_isVain : Cond.instanceMethod yX1_isVain ∈ lw_tbl := List.mem_of_getElem? (i := 599) (by decide +kernel)
theorem wv_X1_keepMotion : Cond.instanceMethod yX1_keepMotion ∈ lw_tbl := List.mem_of_getElem? (i := 596) (by decide +kernel)
theorem wv_X1_meetsDemands : Cond.instanceMethod yX1_meetsDemands ∈ lw_tbl := List.mem_of_getElem? (i := 591) (by decide +kernel)
theorem wv_X1_run : Cond.instanceMethod yX1_run ∈ lw_tbl := List.mem_of_getElem? (i := 567) (by decide +kernel)
theorem wv_X2_init : Cond.instanceMethod yX2_init ∈ lw_tbl := List.mem_of_getElem? (i := 150) (by decide +kernel)
theorem wv_X3_addThing : Cond.instanceMethod yX3_addThing ∈ lw_tbl := List.mem_of_getElem? (i := 455) (by decide +kernel)
theorem wv_X3_become : Cond.instanceMethod yX3_become ∈ lw_tbl := List.mem_of_getElem? (i := 297) (by decide +kernel)
theorem wv_X3_becomeInFrames : Cond.instanceMethod yX3_becomeInFrames ∈ lw_tbl := List.mem_of_getElem? (i := 314) (by decide +kernel)
theorem wv_X3_becomeInThings : Cond.instanceMethod yX3_becomeInThings ∈ lw_tbl := List.mem_of_getElem? (i := 302) (by decide +kernel)
theorem wv_X3_changeSetting : Cond.instanceMethod yX3_changeSetting ∈ lw_tbl := List.mem_of_getElem? (i := 329) (by decide +kernel)
theorem wv_X3_dropFrame : Cond.instanceMethod yX3_dropFrame ∈ lw_tbl := List.mem_of_getElem? (i := 514) (by decide +kernel)
theorem wv_X3_edgesIn : Cond.instanceMethod yX3_edgesIn ∈ lw_tbl := List.mem_of_getElem? (i := 413) (by decide +kernel)
theorem wv_X3_frameAt : Cond.instanceMethod yX3_frameAt ∈ lw_tbl := List.mem_of_getElem? (i := 317) (by decide +kernel)
theorem wv_X3_init : Cond.instanceMethod yX3_init ∈ lw_tbl := List.mem_of_getElem? (i := 36) (by decide +kernel)
theorem wv_X3_paint : Cond.instanceMethod yX3_paint ∈ lw_tbl := List.mem_of_getElem? (i := 367) (by decide +kernel)
theorem wv_X3_paintOver : Cond.instanceMethod yX3_paintOver ∈ lw_tbl := List.mem_of_getElem? (i := 390) (by decide +kernel)
theorem wv_X3_percentAt : Cond.instanceMethod yX3_percentAt ∈ lw_tbl := List.mem_of_getElem? (i := 394) (by decide +kernel)
theorem wv_X3_photograph : Cond.instanceMethod yX3_photograph ∈ lw_tbl := List.mem_of_getElem? (i := 518) (by decide +kernel)
theorem wv_X3_setting : Cond.instanceMethod yX3_setting ∈ lw_tbl := List.mem_of_getElem? (i := 325) (by decide +kernel)
theorem wv_X3_takeFrame : Cond.instanceMethod yX3_takeFrame ∈ lw_tbl := List.mem_of_getElem? (i := 510) (by decide +kernel)
theorem wv_X3_thingAt : Cond.instanceMethod yX3_thingAt ∈ lw_tbl := List.mem_of_getElem? (i := 305) (by decide +kernel)
theorem wv_X3_timeOfRow : Cond.instanceMethod yX3_timeOfRow ∈ lw_tbl := List.mem_of_getElem? (i := 483) (by decide +kernel)
theorem wv_X3_weightOf : Cond.instanceMethod yX3_weightOf ∈ lw_tbl := List.mem_of_getElem? (i := 501) (by decide +kernel)
theorem wv_X4_init : Cond.instanceMethod yX4_init ∈ lw_tbl := List.mem_of_getElem? (i := 144) (by decide +kernel)
theorem wv_X5_become : Cond.instanceMethod yX5_become ∈ lw_tbl := List.mem_of_getElem? (i := 309) (by decide +kernel)
theorem wv_X5_changeSpeed : Cond.instanceMethod yX5_changeSpeed ∈ lw_tbl := List.mem_of_getElem? (i := 338) (by decide +kernel)
theorem wv_X5_init : Cond.instanceMethod yX5_init ∈ lw_tbl := List.mem_of_getElem? (i := 50) (by decide +kernel)
theorem wv_X5_isIn : Cond.instanceMethod yX5_isIn ∈ lw_tbl := List.mem_of_getElem? (i := 372) (by decide +kernel)
theorem wv_X5_numberOf : Cond.instanceMethod yX5_numberOf ∈ lw_tbl := List.mem_of_getElem? (i := 552) (by decide +kernel)
theorem wv_X5_positionAt : Cond.instanceMethod yX5_positionAt ∈ lw_tbl := List.mem_of_getElem? (i := 342) (by decide +kernel)
theorem wv_X6_init : Cond.instanceMethod yX6_init ∈ lw_tbl := List.mem_of_getElem? (i := 191) (by decide +kernel)
theorem wv_X7_blind : Cond.instanceMethod yX7_blind ∈ lw_tbl := List.mem_of_getElem? (i := 346) (by decide +kernel)
theorem wv_X7_count : Cond.instanceMethod yX7_count ∈ lw_tbl := List.mem_of_getElem? (i := 430) (by decide +kernel)
theorem wv_X7_darkPeriods : Cond.instanceMethod yX7_darkPeriods ∈ lw_tbl := List.mem_of_getElem? (i := 617) (by decide +kernel)
theorem wv_X7_dropOldestState : Cond.instanceMethod yX7_dropOldestState ∈ lw_tbl := List.mem_of_getElem? (i := 294) (by decide +kernel)
theorem wv_X7_edgeCountOf : Cond.instanceMethod yX7_edgeCountOf ∈ lw_tbl := List.mem_of_getElem? (i := 410) (by decide +kernel)
theorem wv_X7_edges : Cond.instanceMethod yX7_edges ∈ lw_tbl := List.mem_of_getElem? (i := 462) (by decide +kernel)
theorem wv_X7_fitting : Cond.instanceMethod yX7_fitting ∈ lw_tbl := List.mem_of_getElem? (i := 479) (by decide +kernel)
theorem wv_X7_forget : Cond.instanceMethod yX7_forget ∈ lw_tbl := List.mem_of_getElem? (i := 533) (by decide +kernel)
theorem wv_X7_frameOf : Cond.instanceMethod yX7_frameOf ∈ lw_tbl := List.mem_of_getElem? (i := 404) (by decide +kernel)
theorem wv_X7_isPlace : Cond.instanceMethod yX7_isPlace ∈ lw_tbl := List.mem_of_getElem? (i := 364) (by decide +kernel)
theorem wv_X7_motions : Cond.instanceMethod yX7_motions ∈ lw_tbl := List.mem_of_getElem? (i := 563) (by decide +kernel)
theorem wv_X7_periods : Cond.instanceMethod yX7_periods ∈ lw_tbl := List.mem_of_getElem? (i := 607) (by decide +kernel)
theorem wv_X7_periodsFitting : Cond.instanceMethod yX7_periodsFitting ∈ lw_tbl := List.mem_of_getElem? (i := 613) (by decide +kernel)
theorem wv_X7_pixel : Cond.instanceMethod yX7_pixel ∈ lw_tbl := List.mem_of_getElem? (i := 471) (by decide +kernel)
theorem wv_X7_recordState : Cond.instanceMethod yX7_recordState ∈ lw_tbl := List.mem_of_getElem? (i := 290) (by decide +kernel)
theorem wv_X7_rowFits : Cond.instanceMethod yX7_rowFits ∈ lw_tbl := List.mem_of_getElem? (i := 488) (by decide +kernel)
theorem wv_X7_rowOf : Cond.instanceMethod yX7_rowOf ∈ lw_tbl := List.mem_of_getElem? (i := 497) (by decide +kernel)
theorem wv_X7_set : Cond.instanceMethod yX7_set ∈ lw_tbl := List.mem_of_getElem? (i := 275) (by decide +kernel)
theorem wv_X7_shoot : Cond.instanceMethod yX7_shoot ∈ lw_tbl := List.mem_of_getElem? (i := 506) (by decide +kernel)
theorem wv_X7_shows : Cond.instanceMethod yX7_shows ∈ lw_tbl := List.mem_of_getElem? (i := 359) (by decide +kernel)
theorem wv_X7_thing : Cond.instanceMethod yX7_thing ∈ lw_tbl := List.mem_of_getElem? (i := 448) (by decide +kernel)
theorem wv_X7_thingOf : Cond.instanceMethod yX7_thingOf ∈ lw_tbl := List.mem_of_getElem? (i := 547) (by decide +kernel)
theorem wv_X7_turn : Cond.instanceMethod yX7_turn ∈ lw_tbl := List.mem_of_getElem? (i := 333) (by decide +kernel)
theorem wv_X7_undo : Cond.instanceMethod yX7_undo ∈ lw_tbl := List.mem_of_getElem? (i := 435) (by decide +kernel)
theorem wx_X0_become : Cond.selects RX0 yX0_become yX0_become ∈ lw_tbl := List.mem_of_getElem? (i := 322) (by decide +kernel)
theorem wx_X0_keepRow : Cond.selects RX0 yX0_keepRow yX0_keepRow ∈ lw_tbl := List.mem_of_getElem? (i := 526) (by decide +kernel)
theorem wx_X0_pixelAt : Cond.selects RX0 yX0_pixelAt yX0_pixelAt ∈ lw_tbl := List.mem_of_getElem? (i := 418) (by decide +kernel)
theorem wx_X1_addDemand : Cond.selects RX1 yX1_addDemand yX1_addDemand ∈ lw_tbl := List.mem_of_getElem? (i := 9) (by decide +kernel)
theorem wx_X1_answer : Cond.selects RX1 yX1_answer yX1_answer ∈ lw_tbl := List.mem_of_getElem? (i := 604) (by decide +kernel)
theorem wx_X1_gatherDemands : Cond.selects RX1 yX1_gatherDemands yX1_gatherDemands ∈ lw_tbl := List.mem_of_getElem? (i := 8) (by decide +kernel)
theorem wx_X1_isVain : Cond.selects RX1 yX1_isVain yX1_isVain ∈ lw_tbl := List.mem_of_getElem? (i := 600) (by decide +kernel)
theorem wx_X1_keepMotion : Cond.selects RX1 yX1_keepMotion yX1_keepMotion ∈ lw_tbl := List.mem_of_getElem? (i := 11) (by decide +kernel)
theorem wx_X1_meetsDemands : Cond.selects RX1 yX1_meetsDemands yX1_meetsDemands ∈ lw_tbl := List.mem_of_getElem? (i := 10) (by decide +kernel)
theorem wx_X1_run : Cond.selects RX1 yX1_run yX1_run ∈ lw_tbl := List.mem_of_getElem? (i := 568) (by decide +kernel)
theorem wx_X3_addThing : Cond.selects RX3 yX3_addThing yX3_addThing ∈ lw_tbl := List.mem_of_getElem? (i := 456) (by decide +kernel)
theorem wx_X3_become : Cond.selects RX3 yX3_become yX3_become ∈ lw_tbl := List.mem_of_getElem? (i := 298) (by decide +kernel)
theorem wx_X3_becomeInFrames : Cond.selects RX3 yX3_becomeInFrames yX3_becomeInFrames ∈ lw_tbl := List.mem_of_getElem? (i := 3) (by decide +kernel)
theorem wx_X3_becomeInThings : Cond.selects RX3 yX3_becomeInThings yX3_becomeInThings ∈ lw_tbl := List.mem_of_getElem? (i := 2) (by decide +kernel)
theorem wx_X3_changeSetting : Cond.selects RX3 yX3_changeSetting yX3_changeSetting ∈ lw_tbl := List.mem_of_getElem? (i := 330) (by decide +kernel)
theorem wx_X3_dropFrame : Cond.selects RX3 yX3_dropFrame yX3_dropFrame ∈ lw_tbl := List.mem_of_getElem? (i := 515) (by decide +kernel)
theorem wx_X3_edgesIn : Cond.selects RX3 yX3_edgesIn yX3_edgesIn ∈ lw_tbl := List.mem_of_getElem? (i := 414) (by decide +kernel)
theorem wx_X3_frameAt : Cond.selects RX3 yX3_frameAt yX3_frameAt ∈ lw_tbl := List.mem_of_getElem? (i := 318) (by decide +kernel)
theorem wx_X3_paint : Cond.selects RX3 yX3_paint yX3_paint ∈ lw_tbl := List.mem_of_getElem? (i := 368) (by decide +kernel)
theorem wx_X3_paintOver : Cond.selects RX3 yX3_paintOver yX3_paintOver ∈ lw_tbl := List.mem_of_getElem? (i := 5) (by decide +kernel)
theorem wx_X3_percentAt : Cond.selects RX3 yX3_percentAt yX3_percentAt ∈ lw_tbl := List.mem_of_getElem? (i := 395) (by decide +kernel)
theorem wx_X3_photograph : Cond.selects RX3 yX3_photograph yX3_photograph ∈ lw_tbl := List.mem_of_getElem? (i := 519) (by decide +kernel)
theorem wx_X3_setting : Cond.selects RX3 yX3_setting yX3_setting ∈ lw_tbl := List.mem_of_getElem? (i := 326) (by decide +kernel)
theorem wx_X3_takeFrame : Cond.selects RX3 yX3_takeFrame yX3_takeFrame ∈ lw_tbl := List.mem_of_getElem? (i := 511) (by decide +kernel)
theorem wx_X3_thingAt : Cond.selects RX3 yX3_thingAt yX3_thingAt ∈ lw_tbl := List.mem_of_getElem? (i := 306) (by decide +kernel)
theorem wx_X3_timeOfRow : Cond.selects RX3 yX3_timeOfRow yX3_timeOfRow ∈ lw_tbl := List.mem_of_getElem? (i := 484) (by decide +kernel)
theorem wx_X3_weightOf : Cond.selects RX3 yX3_weightOf yX3_weightOf ∈ lw_tbl := List.mem_of_getElem? (i := 502) (by decide +kernel)
theorem wx_X5_become : Cond.selects RX5 yX5_become yX5_become ∈ lw_tbl := List.mem_of_getElem? (i := 310) (by decide +kernel)
theorem wx_X5_changeSpeed : Cond.selects RX5 yX5_changeSpeed yX5_changeSpeed ∈ lw_tbl := List.mem_of_getElem? (i := 339) (by decide +kernel)
theorem wx_X5_isIn : Cond.selects RX5 yX5_isIn yX5_isIn ∈ lw_tbl := List.mem_of_getElem? (i := 373) (by decide +kernel)
theorem wx_X5_numberOf : Cond.selects RX5 yX5_numberOf yX5_numberOf ∈ lw_tbl := List.mem_of_getElem? (i := 553) (by decide +kernel)
theorem wx_X5_positionAt : Cond.selects RX5 yX5_positionAt yX5_positionAt ∈ lw_tbl := List.mem_of_getElem? (i := 343) (by decide +kernel)
theorem wx_X7_blind : Cond.selects RX7 yX7_blind yX7_blind ∈ lw_tbl := List.mem_of_getElem? (i := 347) (by decide +kernel)
theorem wx_X7_count : Cond.selects RX7 yX7_count yX7_count ∈ lw_tbl := List.mem_of_getElem? (i := 431) (by decide +kernel)
theorem wx_X7_darkPeriods : Cond.selects RX7 yX7_darkPeriods yX7_darkPeriods ∈ lw_tbl := List.mem_of_getElem? (i := 13) (by decide +kernel)
theorem wx_X7_dropOldestState : Cond.selects RX7 yX7_dropOldestState yX7_dropOldestState ∈ lw_tbl := List.mem_of_getElem? (i := 1) (by decide +kernel)
theorem wx_X7_edgeCountOf : Cond.selects RX7 yX7_edgeCountOf yX7_edgeCountOf ∈ lw_tbl := List.mem_of_getElem? (i := 6) (by decide +kernel)
theorem wx_X7_edges : Cond.selects RX7 yX7_edges yX7_edges ∈ lw_tbl := List.mem_of_getElem? (i := 463) (by decide +kernel)
theorem wx_X7_fitting : Cond.selects RX7 yX7_fitting yX7_fitting ∈ lw_tbl := List.mem_of_getElem? (i := 480) (by decide +kernel)
theorem wx_X7_forget : Cond.selects RX7 yX7_forget yX7_forget ∈ lw_tbl := List.mem_of_getElem? (i := 534) (by decide +kernel)
theorem wx_X7_frameOf : Cond.selects RX7 yX7_frameOf yX7_frameOf ∈ lw_tbl := List.mem_of_getElem? (i := 405) (by decide +kernel)
theorem wx_X7_isPlace : Cond.selects RX7 yX7_isPlace yX7_isPlace ∈ lw_tbl := List.mem_of_getElem? (i := 4) (by decide +kernel)
theorem wx_X7_motions : Cond.selects RX7 yX7_motions yX7_motions ∈ lw_tbl := List.mem_of_getElem? (i := 564) (by decide +kernel)
theorem wx_X7_periods : Cond.selects RX7 yX7_periods yX7_periods ∈ lw_tbl := List.mem_of_getElem? (i := 608) (by decide +kernel)
theorem wx_X7_periodsFitting : Cond.selects RX7 yX7_periodsFitting yX7_periodsFitting ∈ lw_tbl := List.mem_of_getElem? (i := 12) (by decide +kernel)
theorem wx_X7_pixel : Cond.selects RX7 yX7_pixel yX7_pixel ∈ lw_tbl := List.mem_of_getElem? (i := 472) (by decide +kernel)
theorem wx_X7_recordState : Cond.selects RX7 yX7_recordState yX7_recordState ∈ lw_tbl := List.mem_of_getElem? (i := 0) (by decide +kernel)
theorem wx_X7_rowFits : Cond.selects RX7 yX7_rowFits yX7_rowFits ∈ lw_tbl := List.mem_of_getElem? (i := 7) (by decide +kernel)
theorem wx_X7_rowOf : Cond.selects RX7 yX7_rowOf yX7_rowOf ∈ lw_tbl := List.mem_of_getElem? (i := 498) (by decide +kernel)
theorem wx_X7_set : Cond.selects RX7 yX7_set yX7_set ∈ lw_tbl := List.mem_of_getElem? (i := 276) (by decide +kernel)
theorem wx_X7_shoot : Cond.selects RX7 yX7_shoot yX7_shoot ∈ lw_tbl := List.mem_of_getElem? (i := 507) (by decide +kernel)
theorem wx_X7_shows : Cond.selects RX7 yX7_shows yX7_shows ∈ lw_tbl := List.mem_of_getElem? (i := 360) (by decide +kernel)
theorem wx_X7_thing : Cond.selects RX7 yX7_thing yX7_thing ∈ lw_tbl := List.mem_of_getElem? (i := 449) (by decide +kernel)
theorem wx_X7_thingOf : Cond.selects RX7 yX7_thingOf yX7_thingOf ∈ lw_tbl := List.mem_of_getElem? (i := 548) (by decide +kernel)
theorem wx_X7_turn : Cond.selects RX7 yX7_turn yX7_turn ∈ lw_tbl := List.mem_of_getElem? (i := 334) (by decide +kernel)
theorem wx_X7_undo : Cond.selects RX7 yX7_undo yX7_undo ∈ lw_tbl := List.mem_of_getElem? (i := 436) (by decide +kernel)
theorem wz_RJ6 : Cond.initialized RJ6 ∈ lw_tbl := List.mem_of_getElem? (i := 23) (by decide +kernel)
theorem wz_RJ9 : Cond.initialized RJ9 ∈ lw_tbl := List.mem_of_getElem? (i := 24) (by decide +kernel)
theorem wz_RL : Cond.initialized RL ∈ lw_tbl := List.mem_of_getElem? (i := 14) (by decide +kernel)
theorem wz_RX0 : Cond.initialized RX0 ∈ lw_tbl := List.mem_of_getElem? (i := 18) (by decide +kernel)
theorem wz_RX1 : Cond.initialized RX1 ∈ lw_tbl := List.mem_of_getElem? (i := 22) (by decide +kernel)
theorem wz_RX2 : Cond.initialized RX2 ∈ lw_tbl := List.mem_of_getElem? (i := 20) (by decide +kernel)
theorem wz_RX3 : Cond.initialized RX3 ∈ lw_tbl := List.mem_of_getElem? (i := 16) (by decide +kernel)
theorem wz_RX4 : Cond.initialized RX4 ∈ lw_tbl := List.mem_of_getElem? (i := 19) (by decide +kernel)
theorem wz_RX5 : Cond.initialized RX5 ∈ lw_tbl := List.mem_of_getElem? (i := 17) (by decide +kernel)
theorem wz_RX6 : Cond.initialized RX6 ∈ lw_tbl := List.mem_of_getElem? (i := 21) (by decide +kernel)
theorem wz_RX7 : Cond.initialized RX7 ∈ lw_tbl := List.mem_of_getElem? (i := 15) (by decide +kernel)
theorem fl_RX0_9 : FL RX0 9 0 2 := ⟨_, rfl, by decide, List.mem_of_getElem? (i := 93) (by decide +kernel)⟩
theorem fl_RX0_15 : FL RX0 15 0 0 := ⟨_, rfl, by decide, List.mem_of_getElem? (i := 86) (by decide +kernel)⟩
theorem fl_RX0_19 : FL RX0 19 0 1 := ⟨_, rfl, by decide, List.mem_of_getElem? (i := 89) (by decide +kernel)⟩
theorem fl_RX1_9 : FL RX1 9 1 0 := ⟨_, rfl, by decide, List.mem_of_getElem? (i := 213) (by decide +kernel)⟩
theorem fl_RX1_15 : FL RX1 15 1 1 := ⟨_, rfl, by decide, List.mem_of_getElem? (i := 214) (by decide +kernel)⟩
theorem fl_RX1_18 : FL RX1 18 1 2 := ⟨_, rfl, by decide, List.mem_of_getElem? (i := 215) (by decide +kernel)⟩
theorem fl_RX1_21 : FL RX1 21 1 4 := ⟨_, rfl, by decide, List.mem_of_getElem? (i := 217) (by decide +kernel)⟩
theorem fl_RX1_24 : FL RX1 24 1 5 := ⟨_, rfl, by decide, List.mem_of_getElem? (i := 218) (by decide +kernel)⟩
theorem fl_RX1_33 : FL RX1 33 1 6 := ⟨_, rfl, by decide, List.mem_of_getElem? (i := 219) (by decide +kernel)⟩
theorem fl_RX1_41 : FL RX1 41 5 4 := ⟨_, rfl, by decide, List.mem_of_getElem? (i := 63) (by decide +kernel)⟩
theorem fl_RX1_54 : FL RX1 54 1 7 := ⟨_, rfl, by decide, List.mem_of_getElem? (i := 220) (by decide +kernel)⟩
theorem fl_RX1_57 : FL RX1 57 1 8 := ⟨_, rfl, by decide, List.mem_of_getElem? (i := 221) (by decide +kernel)⟩
theorem fl_RX1_60 : FL RX1 60 1 9 := ⟨_, rfl, by decide, List.mem_of_getElem? (i := 222) (by decide +kernel)⟩
theorem fl_RX1_63 : FL RX1 63 1 10 := ⟨_, rfl, by decide, List.mem_of_getElem? (i := 223) (by decide +kernel)⟩
theorem fl_RX1_66 : FL RX1 66 1 3 := ⟨_, rfl, by decide, List.mem_of_getElem? (i := 216) (by decide +kernel)⟩
theorem fl_RX1_69 : FL RX1 69 3 4 := ⟨_, rfl, by decide, List.mem_of_getElem? (i := 108) (by decide +kernel)⟩
theorem fl_RX1_80 : FL RX1 80 0 1 := ⟨_, rfl, by decide, List.mem_of_getElem? (i := 90) (by decide +kernel)⟩
theorem fl_RX2_9 : FL RX2 9 2 1 := ⟨_, rfl, by decide, List.mem_of_getElem? (i := 153) (by decide +kernel)⟩
theorem fl_RX3_9 : FL RX3 9 3 0 := ⟨_, rfl, by decide, List.mem_of_getElem? (i := 101) (by decide +kernel)⟩
theorem fl_RX3_17 : FL RX3 17 3 1 := ⟨_, rfl, by decide, List.mem_of_getElem? (i := 102) (by decide +kernel)⟩
theorem fl_RX3_23 : FL RX3 23 3 3 := ⟨_, rfl, by decide, List.mem_of_getElem? (i := 105) (by decide +kernel)⟩
theorem fl_RX3_27 : FL RX3 27 3 8 := ⟨_, rfl, by decide, List.mem_of_getElem? (i := 115) (by decide +kernel)⟩
theorem fl_RX3_30 : FL RX3 30 3 9 := ⟨_, rfl, by decide, List.mem_of_getElem? (i := 117) (by decide +kernel)⟩
theorem fl_RX3_49 : FL RX3 49 3 6 := ⟨_, rfl, by decide, List.mem_of_getElem? (i := 111) (by decide +kernel)⟩
theorem fl_RX3_53 : FL RX3 53 3 7 := ⟨_, rfl, by decide, List.mem_of_getElem? (i := 113) (by decide +kernel)⟩
theorem fl_RX3_56 : FL RX3 56 3 2 := ⟨_, rfl, by decide, List.mem_of_getElem? (i := 103) (by decide +kernel)⟩
theorem fl_RX3_67 : FL RX3 67 3 4 := ⟨_, rfl, by decide, List.mem_of_getElem? (i := 107) (by decide +kernel)⟩
theorem fl_RX3_70 : FL RX3 70 3 5 := ⟨_, rfl, by decide, List.mem_of_getElem? (i := 109) (by decide +kernel)⟩
theorem fl_RX3_80 : FL RX3 80 5 0 := ⟨_, rfl, by decide, List.mem_of_getElem? (i := 54) (by decide +kernel)⟩
theorem fl_RX3_83 : FL RX3 83 5 1 := ⟨_, rfl, by decide, List.mem_of_getElem? (i := 56) (by decide +kernel)⟩
theorem fl_RX3_86 : FL RX3 86 5 2 := ⟨_, rfl, by decide, List.mem_of_getElem? (i := 58) (by decide +kernel)⟩
theorem fl_RX3_89 : FL RX3 89 5 3 := ⟨_, rfl, by decide, List.mem_of_getElem? (i := 61) (by decide +kernel)⟩
theorem fl_RX3_92 : FL RX3 92 5 4 := ⟨_, rfl, by decide, List.mem_of_getElem? (i := 64) (by decide +kernel)⟩
theorem fl_RX3_95 : FL RX3 95 5 5 := ⟨_, rfl, by decide, List.mem_of_getElem? (i := 66) (by decide +kernel)⟩
theorem fl_RX3_110 : FL RX3 110 0 0 := ⟨_, rfl, by decide, List.mem_of_getElem? (i := 88) (by decide +kernel)⟩
theorem fl_RX3_111 : FL RX3 111 0 1 := ⟨_, rfl, by decide, List.mem_of_getElem? (i := 92) (by decide +kernel)⟩
theorem fl_RX4_9 : FL RX4 9 4 0 := ⟨_, rfl, by decide, List.mem_of_getElem? (i := 164) (by decide +kernel)⟩
theorem fl_RX4_18 : FL RX4 18 4 2 := ⟨_, rfl, by decide, List.mem_of_getElem? (i := 166) (by decide +kernel)⟩
theorem fl_RX5_7 : FL RX5 7 5 0 := ⟨_, rfl, by decide, List.mem_of_getElem? (i := 53) (by decide +kernel)⟩
theorem fl_RX5_13 : FL RX5 13 5 1 := ⟨_, rfl, by decide, List.mem_of_getElem? (i := 55) (by decide +kernel)⟩
theorem fl_RX5_16 : FL RX5 16 5 2 := ⟨_, rfl, by decide, List.mem_of_getElem? (i := 57) (by decide +kernel)⟩
theorem fl_RX5_19 : FL RX5 19 5 3 := ⟨_, rfl, by decide, List.mem_of_getElem? (i := 59) (by decide +kernel)⟩
theorem fl_RX5_22 : FL RX5 22 5 4 := ⟨_, rfl, by decide, List.mem_of_getElem? (i := 62) (by decide +kernel)⟩
theorem fl_RX5_25 : FL RX5 25 5 5 := ⟨_, rfl, by decide, List.mem_of_getElem? (i := 65) (by decide +kernel)⟩
theorem fl_RX6_9 : FL RX6 9 6 0 := ⟨_, rfl, by decide, List.mem_of_getElem? (i := 194) (by decide +kernel)⟩
theorem fl_RX6_15 : FL RX6 15 6 1 := ⟨_, rfl, by decide, List.mem_of_getElem? (i := 195) (by decide +kernel)⟩
theorem fl_RX6_18 : FL RX6 18 6 2 := ⟨_, rfl, by decide, List.mem_of_getElem? (i := 196) (by decide +kernel)⟩
theorem fl_RX6_21 : FL RX6 21 6 3 := ⟨_, rfl, by decide, List.mem_of_getElem? (i := 197) (by decide +kernel)⟩
theorem fl_RX7_12 : FL RX7 12 7 0 := ⟨_, rfl, by decide, List.mem_of_getElem? (i := 249) (by decide +kernel)⟩
theorem fl_RX7_16 : FL RX7 16 7 1 := ⟨_, rfl, by decide, List.mem_of_getElem? (i := 250) (by decide +kernel)⟩
theorem fl_RX7_20 : FL RX7 20 7 2 := ⟨_, rfl, by decide, List.mem_of_getElem? (i := 251) (by decide +kernel)⟩
theorem fl_RX7_27 : FL RX7 27 7 3 := ⟨_, rfl, by decide, List.mem_of_getElem? (i := 252) (by decide +kernel)⟩
theorem fl_RX7_34 : FL RX7 34 7 4 := ⟨_, rfl, by decide, List.mem_of_getElem? (i := 253) (by decide +kernel)⟩
theorem fl_RX7_41 : FL RX7 41 7 5 := ⟨_, rfl, by decide, List.mem_of_getElem? (i := 254) (by decide +kernel)⟩
theorem fl_RX7_48 : FL RX7 48 7 6 := ⟨_, rfl, by decide, List.mem_of_getElem? (i := 255) (by decide +kernel)⟩
theorem fl_RX7_52 : FL RX7 52 7 7 := ⟨_, rfl, by decide, List.mem_of_getElem? (i := 256) (by decide +kernel)⟩
theorem fl_RX7_71 : FL RX7 71 3 4 := ⟨_, rfl, by decide, List.mem_of_getElem? (i := 106) (by decide +kernel)⟩
theorem fl_RX7_90 : FL RX7 90 3 2 := ⟨_, rfl, by decide, List.mem_of_getElem? (i := 104) (by decide +kernel)⟩
theorem fl_RX7_102 : FL RX7 102 5 3 := ⟨_, rfl, by decide, List.mem_of_getElem? (i := 60) (by decide +kernel)⟩
theorem fl_RX7_107 : FL RX7 107 3 6 := ⟨_, rfl, by decide, List.mem_of_getElem? (i := 112) (by decide +kernel)⟩
theorem fl_RX7_119 : FL RX7 119 3 7 := ⟨_, rfl, by decide, List.mem_of_getElem? (i := 114) (by decide +kernel)⟩
theorem fl_RX7_157 : FL RX7 157 0 0 := ⟨_, rfl, by decide, List.mem_of_getElem? (i := 87) (by decide +kernel)⟩
theorem fl_RX7_158 : FL RX7 158 0 1 := ⟨_, rfl, by decide, List.mem_of_getElem? (i := 91) (by decide +kernel)⟩
theorem fl_RX7_204 : FL RX7 204 3 8 := ⟨_, rfl, by decide, List.mem_of_getElem? (i := 116) (by decide +kernel)⟩
theorem fl_RX7_207 : FL RX7 207 3 9 := ⟨_, rfl, by decide, List.mem_of_getElem? (i := 118) (by decide +kernel)⟩
theorem fl_RX7_248 : FL RX7 248 3 5 := ⟨_, rfl, by decide, List.mem_of_getElem? (i := 110) (by decide +kernel)⟩
theorem fl_RX7_254 : FL RX7 254 4 1 := ⟨_, rfl, by decide, List.mem_of_getElem? (i := 165) (by decide +kernel)⟩
theorem ms_J6_bitCount_0f7a4 : MSs yJ6_bitCount_0f7a4 cJ6_bitCount_0f7a4 1 (some .int) 1 := ⟨⟨⟨wd_J6_bitCount_0f7a4, wz_RJ6⟩, by decide, by decide, by decide +kernel⟩, wt_J6_bitCount_0f7a4⟩
theorem ms_J9_abs_0f7a4 : MSs yJ9_abs_0f7a4 cJ9_abs_0f7a4 1 (some .int) 1 := ⟨⟨⟨wd_J9_abs_0f7a4, wz_RJ9⟩, by decide, by decide, by decide +kernel⟩, wt_J9_abs_0f7a4⟩
theorem ms_J9_floorDiv_7cf53 : MSs yJ9_floorDiv_7cf53 cJ9_floorDiv_7cf53 3 (some .int) 2 := ⟨⟨⟨wd_J9_floorDiv_7cf53, wz_RJ9⟩, by decide, by decide, by decide +kernel⟩, wt_J9_floorDiv_7cf53⟩
theorem ms_J9_max_7cf53 : MSs yJ9_max_7cf53 cJ9_max_7cf53 2 (some .int) 2 := ⟨⟨⟨wd_J9_max_7cf53, wz_RJ9⟩, by decide, by decide, by decide +kernel⟩, wt_J9_max_7cf53⟩
theorem ms_J9_min_7cf53 : MSs yJ9_min_7cf53 cJ9_min_7cf53 2 (some .int) 2 := ⟨⟨⟨wd_J9_min_7cf53, wz_RJ9⟩, by decide, by decide, by decide +kernel⟩, wt_J9_min_7cf53⟩
theorem ms_L_bits : MSs yL_bits cL_bits 3 (some .int) 1 := ⟨⟨⟨wd_L_bits, wz_RL⟩, by decide, by decide, by decide +kernel⟩, wt_L_bits⟩
theorem ms_L_blinded : MSs yL_blinded cL_blinded 3 (some .int) 1 := ⟨⟨⟨wd_L_blinded, wz_RL⟩, by decide, by decide, by decide +kernel⟩, wt_L_blinded⟩
theorem ms_L_cell : MSs yL_cell cL_cell 2 (some .int) 2 := ⟨⟨⟨wd_L_cell, wz_RL⟩, by decide, by decide, by decide +kernel⟩, wt_L_cell⟩
theorem ms_L_folded : MSs yL_folded cL_folded 5 (some .long) 2 := ⟨⟨⟨wd_L_folded, wz_RL⟩, by decide, by decide, by decide +kernel⟩, wt_L_folded⟩
theorem ms_L_frameHolds : MSs yL_frameHolds cL_frameHolds 12 (some .boolean) 2 := ⟨⟨⟨wd_L_frameHolds, wz_RL⟩, by decide, by decide, by decide +kernel⟩, wt_L_frameHolds⟩
theorem ms_L_has : MSs yL_has cL_has 2 (some .boolean) 2 := ⟨⟨⟨wd_L_has, wz_RL⟩, by decide, by decide, by decide +kernel⟩, wt_L_has⟩
theorem mv_X0_become : MSv 0 yX0_become cX0_become 3 none 1 := ⟨_, rfl, rfl, ⟨⟨wd_X0_become, wz_RX0⟩, by decide, by decide, by decide +kernel⟩, wv_X0_become, wx_X0_become⟩
theorem mi_X0_init : MSi 0 yX0_init cX0_init 1 0 := ⟨_, rfl, ⟨⟨wd_X0_init, wz_RX0⟩, by decide, by decide, by decide +kernel⟩, wv_X0_init, rfl⟩
theorem mv_X0_keepRow : MSv 0 yX0_keepRow cX0_keepRow 7 none 3 := ⟨_, rfl, rfl, ⟨⟨wd_X0_keepRow, wz_RX0⟩, by decide, by decide, by decide +kernel⟩, wv_X0_keepRow, wx_X0_keepRow⟩
theorem mv_X0_pixelAt : MSv 0 yX0_pixelAt cX0_pixelAt 3 (some .int) 2 := ⟨_, rfl, rfl, ⟨⟨wd_X0_pixelAt, wz_RX0⟩, by decide, by decide, by decide +kernel⟩, wv_X0_pixelAt, wx_X0_pixelAt⟩
theorem mv_X1_addDemand : MSv 1 yX1_addDemand cX1_addDemand 11 none 4 := ⟨_, rfl, rfl, ⟨⟨wd_X1_addDemand, wz_RX1⟩, by decide, by decide, by decide +kernel⟩, wv_X1_addDemand, wx_X1_addDemand⟩
theorem mv_X1_answer : MSv 1 yX1_answer cX1_answer 2 (some .int) 1 := ⟨_, rfl, rfl, ⟨⟨wd_X1_answer, wz_RX1⟩, by decide, by decide, by decide +kernel⟩, wv_X1_answer, wx_X1_answer⟩
theorem mv_X1_gatherDemands : MSv 1 yX1_gatherDemands cX1_gatherDemands 6 none 2 := ⟨_, rfl, rfl, ⟨⟨wd_X1_gatherDemands, wz_RX1⟩, by decide, by decide, by decide +kernel⟩, wv_X1_gatherDemands, wx_X1_gatherDemands⟩
theorem mi_X1_init : MSi 1 yX1_init cX1_init 1 0 := ⟨_, rfl, ⟨⟨wd_X1_init, wz_RX1⟩, by decide, by decide, by decide +kernel⟩, wv_X1_init, rfl⟩
theorem mv_X1_isVain : MSv 1 yX1_isVain cX1_isVain 1 (some .boolean) 0 := ⟨_, rfl, rfl, ⟨⟨wd_X1_isVain, wz_RX1⟩, by decide, by decide, by decide +kernel⟩, wv_X1_isVain, wx_X1_isVain⟩
theorem mv_X1_keepMotion : MSv 1 yX1_keepMotion cX1_keepMotion 3 none 2 := ⟨_, rfl, rfl, ⟨⟨wd_X1_keepMotion, wz_RX1⟩, by decide, by decide, by decide +kernel⟩, wv_X1_keepMotion, wx_X1_keepMotion⟩
theorem mv_X1_meetsDemands : MSv 1 yX1_meetsDemands cX1_meetsDemands 6 (some .boolean) 3 := ⟨_, rfl, rfl, ⟨⟨wd_X1_meetsDemands, wz_RX1⟩, by decide, by decide, by decide +kernel⟩, wv_X1_meetsDemands, wx_X1_meetsDemands⟩
theorem mv_X1_run : MSv 1 yX1_run cX1_run 6 none 2 := ⟨_, rfl, rfl, ⟨⟨wd_X1_run, wz_RX1⟩, by decide, by decide, by decide +kernel⟩, wv_X1_run, wx_X1_run⟩
theorem mi_X2_init : MSi 2 yX2_init cX2_init 1 0 := ⟨_, rfl, ⟨⟨wd_X2_init, wz_RX2⟩, by decide, by decide, by decide +kernel⟩, wv_X2_init, rfl⟩
theorem mv_X3_addThing : MSv 3 yX3_addThing cX3_addThing 8 none 6 := ⟨_, rfl, rfl, ⟨⟨wd_X3_addThing, wz_RX3⟩, by decide, by decide, by decide +kernel⟩, wv_X3_addThing, wx_X3_addThing⟩
theorem mv_X3_become : MSv 3 yX3_become cX3_become 3 none 1 := ⟨_, rfl, rfl, ⟨⟨wd_X3_become, wz_RX3⟩, by decide, by decide, by decide +kernel⟩, wv_X3_become, wx_X3_become⟩
theorem mv_X3_becomeInFrames : MSv 3 yX3_becomeInFrames cX3_becomeInFrames 5 none 1 := ⟨_, rfl, rfl, ⟨⟨wd_X3_becomeInFrames, wz_RX3⟩, by decide, by decide, by decide +kernel⟩, wv_X3_becomeInFrames, wx_X3_becomeInFrames⟩
theorem mv_X3_becomeInThings : MSv 3 yX3_becomeInThings cX3_becomeInThings 5 none 1 := ⟨_, rfl, rfl, ⟨⟨wd_X3_becomeInThings, wz_RX3⟩, by decide, by decide, by decide +kernel⟩, wv_X3_becomeInThings, wx_X3_becomeInThings⟩
theorem mv_X3_changeSetting : MSv 3 yX3_changeSetting cX3_changeSetting 3 none 2 := ⟨_, rfl, rfl, ⟨⟨wd_X3_changeSetting, wz_RX3⟩, by decide, by decide, by decide +kernel⟩, wv_X3_changeSetting, wx_X3_changeSetting⟩
theorem mv_X3_dropFrame : MSv 3 yX3_dropFrame cX3_dropFrame 4 none 1 := ⟨_, rfl, rfl, ⟨⟨wd_X3_dropFrame, wz_RX3⟩, by decide, by decide, by decide +kernel⟩, wv_X3_dropFrame, wx_X3_dropFrame⟩
theorem mv_X3_edgesIn : MSv 3 yX3_edgesIn cX3_edgesIn 7 (some .int) 2 := ⟨_, rfl, rfl, ⟨⟨wd_X3_edgesIn, wz_RX3⟩, by decide, by decide, by decide +kernel⟩, wv_X3_edgesIn, wx_X3_edgesIn⟩
theorem mv_X3_frameAt : MSv 3 yX3_frameAt cX3_frameAt 2 (some (.object "RowVotes$Frame")) 1 := ⟨_, rfl, rfl, ⟨⟨wd_X3_frameAt, wz_RX3⟩, by decide, by decide, by decide +kernel⟩, wv_X3_frameAt, wx_X3_frameAt⟩
theorem mi_X3_init : MSi 3 yX3_init cX3_init 2 0 := ⟨_, rfl, ⟨⟨wd_X3_init, wz_RX3⟩, by decide, by decide, by decide +kernel⟩, wv_X3_init, rfl⟩
theorem mv_X3_paint : MSv 3 yX3_paint cX3_paint 10 none 5 := ⟨_, rfl, rfl, ⟨⟨wd_X3_paint, wz_RX3⟩, by decide, by decide, by decide +kernel⟩, wv_X3_paint, wx_X3_paint⟩
theorem mv_X3_paintOver : MSv 3 yX3_paintOver cX3_paintOver 5 none 3 := ⟨_, rfl, rfl, ⟨⟨wd_X3_paintOver, wz_RX3⟩, by decide, by decide, by decide +kernel⟩, wv_X3_paintOver, wx_X3_paintOver⟩
theorem mv_X3_percentAt : MSv 3 yX3_percentAt cX3_percentAt 2 (some .int) 1 := ⟨_, rfl, rfl, ⟨⟨wd_X3_percentAt, wz_RX3⟩, by decide, by decide, by decide +kernel⟩, wv_X3_percentAt, wx_X3_percentAt⟩
theorem mv_X3_photograph : MSv 3 yX3_photograph cX3_photograph 7 none 3 := ⟨_, rfl, rfl, ⟨⟨wd_X3_photograph, wz_RX3⟩, by decide, by decide, by decide +kernel⟩, wv_X3_photograph, wx_X3_photograph⟩
theorem mv_X3_setting : MSv 3 yX3_setting cX3_setting 2 (some .int) 1 := ⟨_, rfl, rfl, ⟨⟨wd_X3_setting, wz_RX3⟩, by decide, by decide, by decide +kernel⟩, wv_X3_setting, wx_X3_setting⟩
theorem mv_X3_takeFrame : MSv 3 yX3_takeFrame cX3_takeFrame 3 none 1 := ⟨_, rfl, rfl, ⟨⟨wd_X3_takeFrame, wz_RX3⟩, by decide, by decide, by decide +kernel⟩, wv_X3_takeFrame, wx_X3_takeFrame⟩
theorem mv_X3_thingAt : MSv 3 yX3_thingAt cX3_thingAt 2 (some (.object "RowVotes$Thing")) 1 := ⟨_, rfl, rfl, ⟨⟨wd_X3_thingAt, wz_RX3⟩, by decide, by decide, by decide +kernel⟩, wv_X3_thingAt, wx_X3_thingAt⟩
theorem mv_X3_timeOfRow : MSv 3 yX3_timeOfRow cX3_timeOfRow 3 (some .int) 2 := ⟨_, rfl, rfl, ⟨⟨wd_X3_timeOfRow, wz_RX3⟩, by decide, by decide, by decide +kernel⟩, wv_X3_timeOfRow, wx_X3_timeOfRow⟩
theorem mv_X3_weightOf : MSv 3 yX3_weightOf cX3_weightOf 2 (some .int) 1 := ⟨_, rfl, rfl, ⟨⟨wd_X3_weightOf, wz_RX3⟩, by decide, by decide, by decide +kernel⟩, wv_X3_weightOf, wx_X3_weightOf⟩
theorem mi_X4_init : MSi 4 yX4_init cX4_init 1 0 := ⟨_, rfl, ⟨⟨wd_X4_init, wz_RX4⟩, by decide, by decide, by decide +kernel⟩, wv_X4_init, rfl⟩
theorem mv_X5_become : MSv 5 yX5_become cX5_become 2 none 1 := ⟨_, rfl, rfl, ⟨⟨wd_X5_become, wz_RX5⟩, by decide, by decide, by decide +kernel⟩, wv_X5_become, wx_X5_become⟩
theorem mv_X5_changeSpeed : MSv 5 yX5_changeSpeed cX5_changeSpeed 3 none 2 := ⟨_, rfl, rfl, ⟨⟨wd_X5_changeSpeed, wz_RX5⟩, by decide, by decide, by decide +kernel⟩, wv_X5_changeSpeed, wx_X5_changeSpeed⟩
theorem mi_X5_init : MSi 5 yX5_init cX5_init 1 0 := ⟨_, rfl, ⟨⟨wd_X5_init, wz_RX5⟩, by decide, by decide, by decide +kernel⟩, wv_X5_init, rfl⟩
theorem mv_X5_isIn : MSv 5 yX5_isIn cX5_isIn 2 (some .boolean) 1 := ⟨_, rfl, rfl, ⟨⟨wd_X5_isIn, wz_RX5⟩, by decide, by decide, by decide +kernel⟩, wv_X5_isIn, wx_X5_isIn⟩
theorem mv_X5_numberOf : MSv 5 yX5_numberOf cX5_numberOf 2 (some .int) 1 := ⟨_, rfl, rfl, ⟨⟨wd_X5_numberOf, wz_RX5⟩, by decide, by decide, by decide +kernel⟩, wv_X5_numberOf, wx_X5_numberOf⟩
theorem mv_X5_positionAt : MSv 5 yX5_positionAt cX5_positionAt 2 (some .int) 1 := ⟨_, rfl, rfl, ⟨⟨wd_X5_positionAt, wz_RX5⟩, by decide, by decide, by decide +kernel⟩, wv_X5_positionAt, wx_X5_positionAt⟩
theorem mi_X6_init : MSi 6 yX6_init cX6_init 1 0 := ⟨_, rfl, ⟨⟨wd_X6_init, wz_RX6⟩, by decide, by decide, by decide +kernel⟩, wv_X6_init, rfl⟩
theorem mv_X7_blind : MSv 7 yX7_blind cX7_blind 3 (some .int) 2 := ⟨_, rfl, rfl, ⟨⟨wd_X7_blind, wz_RX7⟩, by decide, by decide, by decide +kernel⟩, wv_X7_blind, wx_X7_blind⟩
theorem ms_X7_columnsCovered : MSs yX7_columnsCovered cX7_columnsCovered 4 (some .int) 2 := ⟨⟨⟨wd_X7_columnsCovered, wz_RX7⟩, by decide, by decide, by decide +kernel⟩, wt_X7_columnsCovered⟩
theorem mv_X7_count : MSv 7 yX7_count cX7_count 2 (some .int) 1 := ⟨_, rfl, rfl, ⟨⟨wd_X7_count, wz_RX7⟩, by decide, by decide, by decide +kernel⟩, wv_X7_count, wx_X7_count⟩
theorem mv_X7_darkPeriods : MSv 7 yX7_darkPeriods cX7_darkPeriods 4 (some .int) 1 := ⟨_, rfl, rfl, ⟨⟨wd_X7_darkPeriods, wz_RX7⟩, by decide, by decide, by decide +kernel⟩, wv_X7_darkPeriods, wx_X7_darkPeriods⟩
theorem ms_X7_dimmed : MSs yX7_dimmed cX7_dimmed 2 (some .int) 2 := ⟨⟨⟨wd_X7_dimmed, wz_RX7⟩, by decide, by decide, by decide +kernel⟩, wt_X7_dimmed⟩
theorem mv_X7_dropOldestState : MSv 7 yX7_dropOldestState cX7_dropOldestState 3 none 0 := ⟨_, rfl, rfl, ⟨⟨wd_X7_dropOldestState, wz_RX7⟩, by decide, by decide, by decide +kernel⟩, wv_X7_dropOldestState, wx_X7_dropOldestState⟩
theorem mv_X7_edgeCountOf : MSv 7 yX7_edgeCountOf cX7_edgeCountOf 4 (some .int) 1 := ⟨_, rfl, rfl, ⟨⟨wd_X7_edgeCountOf, wz_RX7⟩, by decide, by decide, by decide +kernel⟩, wv_X7_edgeCountOf, wx_X7_edgeCountOf⟩
theorem mv_X7_edges : MSv 7 yX7_edges cX7_edges 4 (some .int) 2 := ⟨_, rfl, rfl, ⟨⟨wd_X7_edges, wz_RX7⟩, by decide, by decide, by decide +kernel⟩, wv_X7_edges, wx_X7_edges⟩
theorem mv_X7_fitting : MSv 7 yX7_fitting cX7_fitting 6 (some .int) 1 := ⟨_, rfl, rfl, ⟨⟨wd_X7_fitting, wz_RX7⟩, by decide, by decide, by decide +kernel⟩, wv_X7_fitting, wx_X7_fitting⟩
theorem mv_X7_forget : MSv 7 yX7_forget cX7_forget 2 (some .int) 1 := ⟨_, rfl, rfl, ⟨⟨wd_X7_forget, wz_RX7⟩, by decide, by decide, by decide +kernel⟩, wv_X7_forget, wx_X7_forget⟩
theorem mv_X7_frameOf : MSv 7 yX7_frameOf cX7_frameOf 4 (some .int) 2 := ⟨_, rfl, rfl, ⟨⟨wd_X7_frameOf, wz_RX7⟩, by decide, by decide, by decide +kernel⟩, wv_X7_frameOf, wx_X7_frameOf⟩
theorem ms_X7_holds : MSs yX7_holds cX7_holds 2 (some .boolean) 2 := ⟨⟨⟨wd_X7_holds, wz_RX7⟩, by decide, by decide, by decide +kernel⟩, wt_X7_holds⟩
theorem ms_X7_isDark : MSs yX7_isDark cX7_isDark 3 (some .boolean) 3 := ⟨⟨⟨wd_X7_isDark, wz_RX7⟩, by decide, by decide, by decide +kernel⟩, wt_X7_isDark⟩
theorem mv_X7_isPlace : MSv 7 yX7_isPlace cX7_isPlace 3 (some .boolean) 2 := ⟨_, rfl, rfl, ⟨⟨wd_X7_isPlace, wz_RX7⟩, by decide, by decide, by decide +kernel⟩, wv_X7_isPlace, wx_X7_isPlace⟩
theorem ms_X7_isWithin : MSs yX7_isWithin cX7_isWithin 3 (some .boolean) 3 := ⟨⟨⟨wd_X7_isWithin, wz_RX7⟩, by decide, by decide, by decide +kernel⟩, wt_X7_isWithin⟩
theorem mv_X7_motions : MSv 7 yX7_motions cX7_motions 3 (some .int) 2 := ⟨_, rfl, rfl, ⟨⟨wd_X7_motions, wz_RX7⟩, by decide, by decide, by decide +kernel⟩, wv_X7_motions, wx_X7_motions⟩
theorem ms_X7_numberIn : MSs yX7_numberIn cX7_numberIn 2 (some .int) 2 := ⟨⟨⟨wd_X7_numberIn, wz_RX7⟩, by decide, by decide, by decide +kernel⟩, wt_X7_numberIn⟩
theorem mv_X7_periods : MSv 7 yX7_periods cX7_periods 4 (some .int) 0 := ⟨_, rfl, rfl, ⟨⟨wd_X7_periods, wz_RX7⟩, by decide, by decide, by decide +kernel⟩, wv_X7_periods, wx_X7_periods⟩
theorem mv_X7_periodsFitting : MSv 7 yX7_periodsFitting cX7_periodsFitting 7 (some .int) 1 := ⟨_, rfl, rfl, ⟨⟨wd_X7_periodsFitting, wz_RX7⟩, by decide, by decide, by decide +kernel⟩, wv_X7_periodsFitting, wx_X7_periodsFitting⟩
theorem mv_X7_pixel : MSv 7 yX7_pixel cX7_pixel 5 (some .int) 3 := ⟨_, rfl, rfl, ⟨⟨wd_X7_pixel, wz_RX7⟩, by decide, by decide, by decide +kernel⟩, wv_X7_pixel, wx_X7_pixel⟩
theorem mv_X7_recordState : MSv 7 yX7_recordState cX7_recordState 1 none 0 := ⟨_, rfl, rfl, ⟨⟨wd_X7_recordState, wz_RX7⟩, by decide, by decide, by decide +kernel⟩, wv_X7_recordState, wx_X7_recordState⟩
theorem mv_X7_rowFits : MSv 7 yX7_rowFits cX7_rowFits 5 (some .boolean) 3 := ⟨_, rfl, rfl, ⟨⟨wd_X7_rowFits, wz_RX7⟩, by decide, by decide, by decide +kernel⟩, wv_X7_rowFits, wx_X7_rowFits⟩
theorem mv_X7_rowOf : MSv 7 yX7_rowOf cX7_rowOf 3 (some .int) 2 := ⟨_, rfl, rfl, ⟨⟨wd_X7_rowOf, wz_RX7⟩, by decide, by decide, by decide +kernel⟩, wv_X7_rowOf, wx_X7_rowOf⟩
theorem mv_X7_set : MSv 7 yX7_set cX7_set 4 (some .int) 2 := ⟨_, rfl, rfl, ⟨⟨wd_X7_set, wz_RX7⟩, by decide, by decide, by decide +kernel⟩, wv_X7_set, wx_X7_set⟩
theorem mv_X7_shoot : MSv 7 yX7_shoot cX7_shoot 1 (some .int) 0 := ⟨_, rfl, rfl, ⟨⟨wd_X7_shoot, wz_RX7⟩, by decide, by decide, by decide +kernel⟩, wv_X7_shoot, wx_X7_shoot⟩
theorem mv_X7_shows : MSv 7 yX7_shows cX7_shows 4 (some .int) 3 := ⟨_, rfl, rfl, ⟨⟨wd_X7_shows, wz_RX7⟩, by decide, by decide, by decide +kernel⟩, wv_X7_shows, wx_X7_shows⟩
theorem mv_X7_thing : MSv 7 yX7_thing cX7_thing 7 (some .int) 6 := ⟨_, rfl, rfl, ⟨⟨wd_X7_thing, wz_RX7⟩, by decide, by decide, by decide +kernel⟩, wv_X7_thing, wx_X7_thing⟩
theorem mv_X7_thingOf : MSv 7 yX7_thingOf cX7_thingOf 4 (some .int) 2 := ⟨_, rfl, rfl, ⟨⟨wd_X7_thingOf, wz_RX7⟩, by decide, by decide, by decide +kernel⟩, wv_X7_thingOf, wx_X7_thingOf⟩
theorem mv_X7_turn : MSv 7 yX7_turn cX7_turn 5 (some .int) 2 := ⟨_, rfl, rfl, ⟨⟨wd_X7_turn, wz_RX7⟩, by decide, by decide, by decide +kernel⟩, wv_X7_turn, wx_X7_turn⟩
theorem mv_X7_undo : MSv 7 yX7_undo cX7_undo 2 (some .int) 0 := ⟨_, rfl, rfl, ⟨⟨wd_X7_undo, wz_RX7⟩, by decide, by decide, by decide +kernel⟩, wv_X7_undo, wx_X7_undo⟩
theorem ms_X7_wrongOfThing : MSs yX7_wrongOfThing cX7_wrongOfThing 6 (some .int) 6 := ⟨⟨⟨wd_X7_wrongOfThing, wz_RX7⟩, by decide, by decide, by decide +kernel⟩, wt_X7_wrongOfThing⟩
