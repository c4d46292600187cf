theorem kb_10 : (Int8.ofInt (10)).toInt32 = (10 : Int32) := by decide
theorem kb_100 : (Int8.ofInt (100)).toInt32 = (100 : Int32) := by decide
theorem kb_101 : (Int8.ofInt (101)).toInt32 = (101 : Int32) := by decide
theorem kb_103 : (Int8.ofInt (103)).toInt32 = (103 : Int32) := by decide
theorem kb_115 : (Int8.ofInt (115)).toInt32 = (115 : Int32) := by decide
theorem kb_116 : (Int8.ofInt (116)).toInt32 = (116 : Int32) := by decide
theorem kb_117 : (Int8.ofInt (117)).toInt32 = (117 : Int32) := by decide
theorem kb_12 : (Int8.ofInt (12)).toInt32 = (12 : Int32) := by decide
theorem kb_126 : (Int8.ofInt (126)).toInt32 = (126 : Int32) := by decide
theorem kb_15 : (Int8.ofInt (15)).toInt32 = (15 : Int32) := by decide
theorem kb_16 : (Int8.ofInt (16)).toInt32 = (16 : Int32) := by decide
theorem kb_17 : (Int8.ofInt (17)).toInt32 = (17 : Int32) := by decide
theorem kb_20 : (Int8.ofInt (20)).toInt32 = (20 : Int32) := by decide
theorem kb_21 : (Int8.ofInt (21)).toInt32 = (21 : Int32) := by decide
theorem kb_32 : (Int8.ofInt (32)).toInt32 = (32 : Int32) := by decide
theorem kb_33 : (Int8.ofInt (33)).toInt32 = (33 : Int32) := by decide
theorem kb_34 : (Int8.ofInt (34)).toInt32 = (34 : Int32) := by decide
theorem kb_35 : (Int8.ofInt (35)).toInt32 = (35 : Int32) := by decide
theorem kb_36 : (Int8.ofInt (36)).toInt32 = (36 : Int32) := by decide
theorem kb_37 : (Int8.ofInt (37)).toInt32 = (37 : Int32) := by decide
theorem kb_40 : (Int8.ofInt (40)).toInt32 = (40 : Int32) := by decide
theorem kb_41 : (Int8.ofInt (41)).toInt32 = (41 : Int32) := by decide
theorem kb_44 : (Int8.ofInt (44)).toInt32 = (44 : Int32) := by decide
theorem kb_45 : (Int8.ofInt (45)).toInt32 = (45 : Int32) := by decide
theorem kb_48 : (Int8.ofInt (48)).toInt32 = (48 : Int32) := by decide
theorem kb_49 : (Int8.ofInt (49)).toInt32 = (49 : Int32) := by decide
theorem kb_50 : (Int8.ofInt (50)).toInt32 = (50 : Int32) := by decide
theorem kb_57 : (Int8.ofInt (57)).toInt32 = (57 : Int32) := by decide
theorem kb_59 : (Int8.ofInt (59)).toInt32 = (59 : Int32) := by decide
theorem kb_6 : (Int8.ofInt (6)).toInt32 = (6 : Int32) := by decide
theorem kb_63 : (Int8.ofInt (63)).toInt32 = (63 : Int32) := by decide
theorem kb_7 : (Int8.ofInt (7)).toInt32 = (7 : Int32) := by decide
theorem kb_8 : (Int8.ofInt (8)).toInt32 = (8 : Int32) := by decide
theorem kb_80 : (Int8.ofInt (80)).toInt32 = (80 : Int32) := by decide
theorem kb_9 : (Int8.ofInt (9)).toInt32 = (9 : Int32) := by decide
theorem kb_98 : (Int8.ofInt (98)).toInt32 = (98 : Int32) := by decide
theorem kb_m100 : (Int8.ofInt (-100)).toInt32 = (-100 : Int32) := by decide
theorem kb_m8 : (Int8.ofInt (-8)).toInt32 = (-8 : Int32) := by decide
theorem ki_0 : Int32.ofInt (0) = (0 : Int32) := by decide
theorem ki_1 : Int32.ofInt (1) = (1 : Int32) := by decide
theorem ki_10 : Int32.ofInt (10) = (10 : Int32) := by decide
theorem ki_100 : Int32.ofInt (100) = (100 : Int32) := by decide
theorem ki_2 : Int32.ofInt (2) = (2 : Int32) := by decide
theorem ki_3 : Int32.ofInt (3) = (3 : Int32) := by decide
theorem ki_4 : Int32.ofInt (4) = (4 : Int32) := by decide
theorem ki_5 : Int32.ofInt (5) = (5 : Int32) := by decide
theorem ki_m1 : Int32.ofInt (-1) = (-1 : Int32) := by decide
theorem ks_160 : (Int16.ofInt (160)).toInt32 = (160 : Int32) := by decide
theorem ks_1600 : (Int16.ofInt (1600)).toInt32 = (1600 : Int32) := by decide
theorem ks_162 : (Int16.ofInt (162)).toInt32 = (162 : Int32) := by decide
theorem ks_200 : (Int16.ofInt (200)).toInt32 = (200 : Int32) := by decide
theorem ks_20000 : (Int16.ofInt (20000)).toInt32 = (20000 : Int32) := by decide
theorem ks_2400 : (Int16.ofInt (2400)).toInt32 = (2400 : Int32) := by decide
theorem ks_2401 : (Int16.ofInt (2401)).toInt32 = (2401 : Int32) := by decide
theorem ks_255 : (Int16.ofInt (255)).toInt32 = (255 : Int32) := by decide
theorem ks_2601 : (Int16.ofInt (2601)).toInt32 = (2601 : Int32) := by decide
theorem ks_3468 : (Int16.ofInt (3468)).toInt32 = (3468 : Int32) := by decide
theorem ks_847 : (Int16.ofInt (847)).toInt32 = (847 : Int32) := by decide
theorem ks_857 : (Int16.ofInt (857)).toInt32 = (857 : Int32) := by decide
theorem ks_867 : (Int16.ofInt (867)).toInt32 = (867 : Int32) := by decide
theorem ks_m1000 : (Int16.ofInt (-1000)).toInt32 = (-1000 : Int32) := by decide
theorem ks_m200 : (Int16.ofInt (-200)).toInt32 = (-200 : Int32) := by decide
theorem ks_m20000 : (Int16.ofInt (-20000)).toInt32 = (-20000 : Int32) := by decide
theorem w_oc : Cond.code Lib.objectInit ⟨#[0xb1]⟩ 1 none ∈ lw_tbl := List.mem_of_getElem? (i := 72) (by decide +kernel)
theorem w_oi : Cond.instanceMethod Lib.objectInit ∈ lw_tbl := List.mem_of_getElem? (i := 71) (by decide +kernel)
theorem wa_char : Cond.arrayClass .char ∈ lw_tbl := List.mem_of_getElem? (i := 215) (by decide +kernel)
theorem wa_int : Cond.arrayClass .int ∈ lw_tbl := List.mem_of_getElem? (i := 120) (by decide +kernel)
theorem wc_RJ6_265 : Cond.constant RJ6 265 (1431655765) ∈ lw_tbl := List.mem_of_getElem? (i := 441) (by decide +kernel)
theorem wc_RJ6_266 : Cond.constant RJ6 266 (858993459) ∈ lw_tbl := List.mem_of_getElem? (i := 442) (by decide +kernel)
theorem wc_RJ6_267 : Cond.constant RJ6 267 (252645135) ∈ lw_tbl := List.mem_of_getElem? (i := 443) (by decide +kernel)
theorem wc_RX1_104 : Cond.constant RX1 104 (65535) ∈ lw_tbl := List.mem_of_getElem? (i := 701) (by decide +kernel)
theorem wc_RX6_54 : Cond.constant RX6 54 (-10000004) ∈ lw_tbl := List.mem_of_getElem? (i := 594) (by decide +kernel)
theorem wc_RX7_163 : Cond.constant RX7 163 (-10000004) ∈ lw_tbl := List.mem_of_getElem? (i := 546) (by decide +kernel)
theorem wc_RX7_237 : Cond.constant RX7 237 (2097151) ∈ lw_tbl := List.mem_of_getElem? (i := 726) (by decide +kernel)
theorem wc_RX7_60 : Cond.constant RX7 60 (-10000001) ∈ lw_tbl := List.mem_of_getElem? (i := 346) (by decide +kernel)
theorem wc_RX7_74 : Cond.constant RX7 74 (-10000002) ∈ lw_tbl := List.mem_of_getElem? (i := 352) (by decide +kernel)
theorem wc_RX7_93 : Cond.constant RX7 93 (-10000003) ∈ lw_tbl := List.mem_of_getElem? (i := 404) (by decide +kernel)
theorem wc_RX8_120 : Cond.constant RX8 120 (-10000004) ∈ lw_tbl := List.mem_of_getElem? (i := 1011) (by decide +kernel)
theorem wc_RX8_44 : Cond.constant RX8 44 (-10000001) ∈ lw_tbl := List.mem_of_getElem? (i := 898) (by decide +kernel)
theorem wc_RX8_45 : Cond.constant RX8 45 (-10000002) ∈ lw_tbl := List.mem_of_getElem? (i := 899) (by decide +kernel)
theorem wc_RX8_49 : Cond.constant RX8 49 (-1000000) ∈ lw_tbl := List.mem_of_getElem? (i := 914) (by decide +kernel)
theorem wc_RX8_54 : Cond.constant RX8 54 (-10000003) ∈ lw_tbl := List.mem_of_getElem? (i := 915) (by decide +kernel)
theorem wd_J6_bitCount_0f7a4 : Cond.code yJ6_bitCount_0f7a4 cJ6_bitCount_0f7a4 1 (some .int) ∈ lw_tbl := List.mem_of_getElem? (i := 440) (by decide +kernel)
theorem wd_J9_abs_0f7a4 : Cond.code yJ9_abs_0f7a4 cJ9_abs_0f7a4 1 (some .int) ∈ lw_tbl := List.mem_of_getElem? (i := 541) (by decide +kernel)
theorem wd_J9_floorDiv_7cf53 : Cond.code yJ9_floorDiv_7cf53 cJ9_floorDiv_7cf53 3 (some .int) ∈ lw_tbl := List.mem_of_getElem? (i := 467) (by decide +kernel)
theorem wd_J9_max_7cf53 : Cond.code yJ9_max_7cf53 cJ9_max_7cf53 2 (some .int) ∈ lw_tbl := List.mem_of_getElem? (i := 473) (by decide +kernel)
theorem wd_J9_min_7cf53 : Cond.code yJ9_min_7cf53 cJ9_min_7cf53 2 (some .int) ∈ lw_tbl := List.mem_of_getElem? (i := 470) (by decide +kernel)
theorem wd_X0_become : Cond.code yX0_become cX0_become 3 none ∈ lw_tbl := List.mem_of_getElem? (i := 388) (by decide +kernel)
theorem wd_X0_init : Cond.code yX0_init cX0_init 1 none ∈ lw_tbl := List.mem_of_getElem? (i := 124) (by decide +kernel)
theorem wd_X0_keepRow : Cond.code yX0_keepRow cX0_keepRow 7 none ∈ lw_tbl := List.mem_of_getElem? (i := 514) (by decide +kernel)
theorem wd_X0_pixelAt : Cond.code yX0_pixelAt cX0_pixelAt 3 (some .int) ∈ lw_tbl := List.mem_of_getElem? (i := 537) (by decide +kernel)
theorem wd_X1_addDemand : Cond.code yX1_addDemand cX1_addDemand 11 none ∈ lw_tbl := List.mem_of_getElem? (i := 697) (by decide +kernel)
theorem wd_X1_answer : Cond.code yX1_answer cX1_answer 2 (some .int) ∈ lw_tbl := List.mem_of_getElem? (i := 721) (by decide +kernel)
theorem wd_X1_gatherDemands : Cond.code yX1_gatherDemands cX1_gatherDemands 6 none ∈ lw_tbl := List.mem_of_getElem? (i := 690) (by decide +kernel)
theorem wd_X1_init : Cond.code yX1_init cX1_init 1 none ∈ lw_tbl := List.mem_of_getElem? (i := 276) (by decide +kernel)
theorem wd_X1_isVain : Cond.code yX1_isVain cX1_isVain 1 (some .boolean) ∈ lw_tbl := List.mem_of_getElem? (i := 717) (by decide +kernel)
theorem wd_X1_keepMotion : Cond.code yX1_keepMotion cX1_keepMotion 3 none ∈ lw_tbl := List.mem_of_getElem? (i := 713) (by decide +kernel)
theorem wd_X1_meetsDemands : Cond.code yX1_meetsDemands cX1_meetsDemands 6 (some .boolean) ∈ lw_tbl := List.mem_of_getElem? (i := 708) (by decide +kernel)
theorem wd_X1_run : Cond.code yX1_run cX1_run 6 none ∈ lw_tbl := List.mem_of_getElem? (i := 685) (by decide +kernel)
theorem wd_X2_init : Cond.code yX2_init cX2_init 1 none ∈ lw_tbl := List.mem_of_getElem? (i := 196) (by decide +kernel)
theorem wd_X2_isDigit : Cond.code yX2_isDigit cX2_isDigit 1 (some .boolean) ∈ lw_tbl := List.mem_of_getElem? (i := 794) (by decide +kernel)
theorem wd_X2_numberAt : Cond.code yX2_numberAt cX2_numberAt 2 (some .int) ∈ lw_tbl := List.mem_of_getElem? (i := 806) (by decide +kernel)
theorem wd_X2_numbersBehind : Cond.code yX2_numbersBehind cX2_numbersBehind 1 (some .int) ∈ lw_tbl := List.mem_of_getElem? (i := 783) (by decide +kernel)
theorem wd_X2_perform : Cond.code yX2_perform cX2_perform 3 none ∈ lw_tbl := List.mem_of_getElem? (i := 824) (by decide +kernel)
theorem wd_X2_read : Cond.code yX2_read cX2_read 5 none ∈ lw_tbl := List.mem_of_getElem? (i := 776) (by decide +kernel)
theorem wd_X2_readNumber : Cond.code yX2_readNumber cX2_readNumber 6 none ∈ lw_tbl := List.mem_of_getElem? (i := 791) (by decide +kernel)
theorem wd_X2_readSign : Cond.code yX2_readSign cX2_readSign 3 none ∈ lw_tbl := List.mem_of_getElem? (i := 787) (by decide +kernel)
theorem wd_X2_wrongNumber : Cond.code yX2_wrongNumber cX2_wrongNumber 1 (some .int) ∈ lw_tbl := List.mem_of_getElem? (i := 802) (by decide +kernel)
theorem wd_X3_addThing : Cond.code yX3_addThing cX3_addThing 8 none ∈ lw_tbl := List.mem_of_getElem? (i := 408) (by decide +kernel)
theorem wd_X3_become : Cond.code yX3_become cX3_become 3 none ∈ lw_tbl := List.mem_of_getElem? (i := 364) (by decide +kernel)
theorem wd_X3_becomeInFrames : Cond.code yX3_becomeInFrames cX3_becomeInFrames 5 none ∈ lw_tbl := List.mem_of_getElem? (i := 380) (by decide +kernel)
theorem wd_X3_becomeInThings : Cond.code yX3_becomeInThings cX3_becomeInThings 5 none ∈ lw_tbl := List.mem_of_getElem? (i := 368) (by decide +kernel)
theorem wd_X3_changeSetting : Cond.code yX3_changeSetting cX3_changeSetting 3 none ∈ lw_tbl := List.mem_of_getElem? (i := 396) (by decide +kernel)
theorem wd_X3_dropFrame : Cond.code yX3_dropFrame cX3_dropFrame 4 none ∈ lw_tbl := List.mem_of_getElem? (i := 500) (by decide +kernel)
theorem wd_X3_edgesIn : Cond.code yX3_edgesIn cX3_edgesIn 7 (some .int) ∈ lw_tbl := List.mem_of_getElem? (i := 533) (by decide +kernel)
theorem wd_X3_frameAt : Cond.code yX3_frameAt cX3_frameAt 2 (some (.object "RowVotes$Frame")) ∈ lw_tbl := List.mem_of_getElem? (i := 384) (by decide +kernel)
theorem wd_X3_init : Cond.code yX3_init cX3_init 2 none ∈ lw_tbl := List.mem_of_getElem? (i := 77) (by decide +kernel)
theorem wd_X3_judgeRows : Cond.code yX3_judgeRows cX3_judgeRows 4 none ∈ lw_tbl := List.mem_of_getElem? (i := 666) (by decide +kernel)
theorem wd_X3_paint : Cond.code yX3_paint cX3_paint 10 none ∈ lw_tbl := List.mem_of_getElem? (i := 455) (by decide +kernel)
theorem wd_X3_paintOver : Cond.code yX3_paintOver cX3_paintOver 5 none ∈ lw_tbl := List.mem_of_getElem? (i := 477) (by decide +kernel)
theorem wd_X3_percentAt : Cond.code yX3_percentAt cX3_percentAt 2 (some .int) ∈ lw_tbl := List.mem_of_getElem? (i := 482) (by decide +kernel)
theorem wd_X3_photograph : Cond.code yX3_photograph cX3_photograph 7 none ∈ lw_tbl := List.mem_of_getElem? (i := 504) (by decide +kernel)
theorem wd_X3_setting : Cond.code yX3_setting cX3_setting 2 (some .int) ∈ lw_tbl := List.mem_of_getElem? (i := 392) (by decide +kernel)
theorem wd_X3_takeFrame : Cond.code yX3_takeFrame cX3_takeFrame 3 none ∈ lw_tbl := List.mem_of_getElem? (i := 496) (by decide +kernel)
theorem wd_X3_thingAt : Cond.code yX3_thingAt cX3_thingAt 2 (some (.object "RowVotes$Thing")) ∈ lw_tbl := List.mem_of_getElem? (i := 372) (by decide +kernel)
theorem wd_X3_timeOfRow : Cond.code yX3_timeOfRow cX3_timeOfRow 3 (some .int) ∈ lw_tbl := List.mem_of_getElem? (i := 508) (by decide +kernel)
theorem wd_X3_weightOf : Cond.code yX3_weightOf cX3_weightOf 2 (some .int) ∈ lw_tbl := List.mem_of_getElem? (i := 598) (by decide +kernel)
theorem wd_X4_append : Cond.code yX4_append cX4_append 2 (some .boolean) ∈ lw_tbl := List.mem_of_getElem? (i := 760) (by decide +kernel)
theorem wd_X4_examine : Cond.code yX4_examine cX4_examine 3 none ∈ lw_tbl := List.mem_of_getElem? (i := 772) (by decide +kernel)
theorem wd_X4_examineOrder : Cond.code yX4_examineOrder cX4_examineOrder 1 none ∈ lw_tbl := List.mem_of_getElem? (i := 798) (by decide +kernel)
theorem wd_X4_init : Cond.code yX4_init cX4_init 1 none ∈ lw_tbl := List.mem_of_getElem? (i := 190) (by decide +kernel)
theorem wd_X4_isPossibleThen : Cond.code yX4_isPossibleThen cX4_isPossibleThen 3 (some .boolean) ∈ lw_tbl := List.mem_of_getElem? (i := 813) (by decide +kernel)
theorem wd_X4_signAt : Cond.code yX4_signAt cX4_signAt 2 (some .char) ∈ lw_tbl := List.mem_of_getElem? (i := 780) (by decide +kernel)
theorem wd_X5_become : Cond.code yX5_become cX5_become 2 none ∈ lw_tbl := List.mem_of_getElem? (i := 376) (by decide +kernel)
theorem wd_X5_changeSpeed : Cond.code yX5_changeSpeed cX5_changeSpeed 3 none ∈ lw_tbl := List.mem_of_getElem? (i := 417) (by decide +kernel)
theorem wd_X5_init : Cond.code yX5_init cX5_init 1 none ∈ lw_tbl := List.mem_of_getElem? (i := 91) (by decide +kernel)
theorem wd_X5_isIn : Cond.code yX5_isIn cX5_isIn 2 (some .boolean) ∈ lw_tbl := List.mem_of_getElem? (i := 460) (by decide +kernel)
theorem wd_X5_numberOf : Cond.code yX5_numberOf cX5_numberOf 2 (some .int) ∈ lw_tbl := List.mem_of_getElem? (i := 430) (by decide +kernel)
theorem wd_X5_positionAt : Cond.code yX5_positionAt cX5_positionAt 2 (some .int) ∈ lw_tbl := List.mem_of_getElem? (i := 421) (by decide +kernel)
theorem wd_X6_countVotes : Cond.code yX6_countVotes cX6_countVotes 4 none ∈ lw_tbl := List.mem_of_getElem? (i := 593) (by decide +kernel)
theorem wd_X6_init : Cond.code yX6_init cX6_init 1 none ∈ lw_tbl := List.mem_of_getElem? (i := 257) (by decide +kernel)
theorem wd_X6_mostVotes : Cond.code yX6_mostVotes cX6_mostVotes 3 (some .int) ∈ lw_tbl := List.mem_of_getElem? (i := 615) (by decide +kernel)
theorem wd_X6_readEdges : Cond.code yX6_readEdges cX6_readEdges 6 none ∈ lw_tbl := List.mem_of_getElem? (i := 575) (by decide +kernel)
theorem wd_X6_readFirst : Cond.code yX6_readFirst cX6_readFirst 3 none ∈ lw_tbl := List.mem_of_getElem? (i := 571) (by decide +kernel)
theorem wd_X6_readSecond : Cond.code yX6_readSecond cX6_readSecond 3 none ∈ lw_tbl := List.mem_of_getElem? (i := 581) (by decide +kernel)
theorem wd_X6_told : Cond.code yX6_told cX6_told 5 (some .int) ∈ lw_tbl := List.mem_of_getElem? (i := 611) (by decide +kernel)
theorem wd_X6_voteOf : Cond.code yX6_voteOf cX6_voteOf 2 (some .int) ∈ lw_tbl := List.mem_of_getElem? (i := 603) (by decide +kernel)
theorem wd_X6_voteOnShift : Cond.code yX6_voteOnShift cX6_voteOnShift 2 none ∈ lw_tbl := List.mem_of_getElem? (i := 585) (by decide +kernel)
theorem wd_X6_voteOnSlant : Cond.code yX6_voteOnSlant cX6_voteOnSlant 4 none ∈ lw_tbl := List.mem_of_getElem? (i := 645) (by decide +kernel)
theorem wd_X6_votersAtAll : Cond.code yX6_votersAtAll cX6_votersAtAll 1 (some .int) ∈ lw_tbl := List.mem_of_getElem? (i := 632) (by decide +kernel)
theorem wd_X6_votersFor : Cond.code yX6_votersFor cX6_votersFor 4 (some .int) ∈ lw_tbl := List.mem_of_getElem? (i := 624) (by decide +kernel)
theorem wd_X6_weigh : Cond.code yX6_weigh cX6_weigh 2 none ∈ lw_tbl := List.mem_of_getElem? (i := 658) (by decide +kernel)
theorem wd_X7_bestShift : Cond.code yX7_bestShift cX7_bestShift 7 (some .int) ∈ lw_tbl := List.mem_of_getElem? (i := 589) (by decide +kernel)
theorem wd_X7_columnsCovered : Cond.code yX7_columnsCovered cX7_columnsCovered 4 (some .int) ∈ lw_tbl := List.mem_of_getElem? (i := 464) (by decide +kernel)
theorem wd_X7_darkPeriods : Cond.code yX7_darkPeriods cX7_darkPeriods 4 (some .int) ∈ lw_tbl := List.mem_of_getElem? (i := 735) (by decide +kernel)
theorem wd_X7_dimmed : Cond.code yX7_dimmed cX7_dimmed 2 (some .int) ∈ lw_tbl := List.mem_of_getElem? (i := 488) (by decide +kernel)
theorem wd_X7_dropOldestState : Cond.code yX7_dropOldestState cX7_dropOldestState 3 none ∈ lw_tbl := List.mem_of_getElem? (i := 360) (by decide +kernel)
theorem wd_X7_edgeCountOf : Cond.code yX7_edgeCountOf cX7_edgeCountOf 4 (some .int) ∈ lw_tbl := List.mem_of_getElem? (i := 529) (by decide +kernel)
theorem wd_X7_holds : Cond.code yX7_holds cX7_holds 2 (some .boolean) ∈ lw_tbl := List.mem_of_getElem? (i := 437) (by decide +kernel)
theorem wd_X7_isDark : Cond.code yX7_isDark cX7_isDark 3 (some .boolean) ∈ lw_tbl := List.mem_of_getElem? (i := 485) (by decide +kernel)
theorem wd_X7_isPair : Cond.code yX7_isPair cX7_isPair 3 (some .boolean) ∈ lw_tbl := List.mem_of_getElem? (i := 563) (by decide +kernel)
theorem wd_X7_isPlace : Cond.code yX7_isPlace cX7_isPlace 3 (some .boolean) ∈ lw_tbl := List.mem_of_getElem? (i := 451) (by decide +kernel)
theorem wd_X7_isWithin : Cond.code yX7_isWithin cX7_isWithin 3 (some .boolean) ∈ lw_tbl := List.mem_of_getElem? (i := 345) (by decide +kernel)
theorem wd_X7_numberIn : Cond.code yX7_numberIn cX7_numberIn 2 (some .int) ∈ lw_tbl := List.mem_of_getElem? (i := 87) (by decide +kernel)
theorem wd_X7_periodsFitting : Cond.code yX7_periodsFitting cX7_periodsFitting 7 (some .int) ∈ lw_tbl := List.mem_of_getElem? (i := 730) (by decide +kernel)
theorem wd_X7_recordState : Cond.code yX7_recordState cX7_recordState 1 none ∈ lw_tbl := List.mem_of_getElem? (i := 356) (by decide +kernel)
theorem wd_X7_rowFits : Cond.code yX7_rowFits cX7_rowFits 5 (some .boolean) ∈ lw_tbl := List.mem_of_getElem? (i := 740) (by decide +kernel)
theorem wd_X7_voteOn : Cond.code yX7_voteOn cX7_voteOn 3 none ∈ lw_tbl := List.mem_of_getElem? (i := 567) (by decide +kernel)
theorem wd_X7_wrongOfThing : Cond.code yX7_wrongOfThing cX7_wrongOfThing 6 (some .int) ∈ lw_tbl := List.mem_of_getElem? (i := 403) (by decide +kernel)
theorem wd_X8_adds : Cond.code yX8_adds cX8_adds 8 none ∈ lw_tbl := List.mem_of_getElem? (i := 918) (by decide +kernel)
theorem wd_X8_agreeing : Cond.code yX8_agreeing cX8_agreeing 5 (some .int) ∈ lw_tbl := List.mem_of_getElem? (i := 1037) (by decide +kernel)
theorem wd_X8_allFit : Cond.code yX8_allFit cX8_allFit 4 (some .boolean) ∈ lw_tbl := List.mem_of_getElem? (i := 1124) (by decide +kernel)
theorem wd_X8_areFrames : Cond.code yX8_areFrames cX8_areFrames 3 (some .boolean) ∈ lw_tbl := List.mem_of_getElem? (i := 1027) (by decide +kernel)
theorem wd_X8_bits : Cond.code yX8_bits cX8_bits 3 (some .int) ∈ lw_tbl := List.mem_of_getElem? (i := 940) (by decide +kernel)
theorem wd_X8_can : Cond.code yX8_can cX8_can 3 (some .boolean) ∈ lw_tbl := List.mem_of_getElem? (i := 1187) (by decide +kernel)
theorem wd_X8_copies : Cond.code yX8_copies cX8_copies 5 none ∈ lw_tbl := List.mem_of_getElem? (i := 906) (by decide +kernel)
theorem wd_X8_counts : Cond.code yX8_counts cX8_counts 3 none ∈ lw_tbl := List.mem_of_getElem? (i := 1060) (by decide +kernel)
theorem wd_X8_covers : Cond.code yX8_covers cX8_covers 8 (some .boolean) ∈ lw_tbl := List.mem_of_getElem? (i := 958) (by decide +kernel)
theorem wd_X8_does : Cond.code yX8_does cX8_does 3 none ∈ lw_tbl := List.mem_of_getElem? (i := 1191) (by decide +kernel)
theorem wd_X8_done : Cond.code yX8_done cX8_done 5 (some .int) ∈ lw_tbl := List.mem_of_getElem? (i := 1160) (by decide +kernel)
theorem wd_X8_drops : Cond.code yX8_drops cX8_drops 3 none ∈ lw_tbl := List.mem_of_getElem? (i := 971) (by decide +kernel)
theorem wd_X8_edgesAt : Cond.code yX8_edgesAt cX8_edgesAt 6 (some .int) ∈ lw_tbl := List.mem_of_getElem? (i := 1112) (by decide +kernel)
theorem wd_X8_edgesIn : Cond.code yX8_edgesIn cX8_edgesIn 5 (some .int) ∈ lw_tbl := List.mem_of_getElem? (i := 991) (by decide +kernel)
theorem wd_X8_faults : Cond.code yX8_faults cX8_faults 4 none ∈ lw_tbl := List.mem_of_getElem? (i := 1164) (by decide +kernel)
theorem wd_X8_form : Cond.code yX8_form cX8_form 3 (some .int) ∈ lw_tbl := List.mem_of_getElem? (i := 1168) (by decide +kernel)
theorem wd_X8_frameValue : Cond.code yX8_frameValue cX8_frameValue 3 (some .int) ∈ lw_tbl := List.mem_of_getElem? (i := 987) (by decide +kernel)
theorem wd_X8_has : Cond.code yX8_has cX8_has 2 (some .boolean) ∈ lw_tbl := List.mem_of_getElem? (i := 1002) (by decide +kernel)
theorem wd_X8_in : Cond.code yX8_in cX8_in 3 (some .boolean) ∈ lw_tbl := List.mem_of_getElem? (i := 897) (by decide +kernel)
theorem wd_X8_isColumn : Cond.code yX8_isColumn cX8_isColumn 2 (some .boolean) ∈ lw_tbl := List.mem_of_getElem? (i := 952) (by decide +kernel)
theorem wd_X8_isDark : Cond.code yX8_isDark cX8_isDark 2 (some .boolean) ∈ lw_tbl := List.mem_of_getElem? (i := 961) (by decide +kernel)
theorem wd_X8_isEdge : Cond.code yX8_isEdge cX8_isEdge 5 (some .boolean) ∈ lw_tbl := List.mem_of_getElem? (i := 995) (by decide +kernel)
theorem wd_X8_isFrame : Cond.code yX8_isFrame cX8_isFrame 2 (some .boolean) ∈ lw_tbl := List.mem_of_getElem? (i := 979) (by decide +kernel)
theorem wd_X8_isRow : Cond.code yX8_isRow cX8_isRow 2 (some .boolean) ∈ lw_tbl := List.mem_of_getElem? (i := 948) (by decide +kernel)
theorem wd_X8_isSeen : Cond.code yX8_isSeen cX8_isSeen 3 (some .boolean) ∈ lw_tbl := List.mem_of_getElem? (i := 999) (by decide +kernel)
theorem wd_X8_isSetting : Cond.code yX8_isSetting cX8_isSetting 2 (some .boolean) ∈ lw_tbl := List.mem_of_getElem? (i := 894) (by decide +kernel)
theorem wd_X8_isThing : Cond.code yX8_isThing cX8_isThing 2 (some .boolean) ∈ lw_tbl := List.mem_of_getElem? (i := 926) (by decide +kernel)
theorem wd_X8_look : Cond.code yX8_look cX8_look 1 (some .int) ∈ lw_tbl := List.mem_of_getElem? (i := 1172) (by decide +kernel)
theorem wd_X8_mostVoted : Cond.code yX8_mostVoted cX8_mostVoted 4 (some .int) ∈ lw_tbl := List.mem_of_getElem? (i := 1064) (by decide +kernel)
theorem wd_X8_noVotes : Cond.code yX8_noVotes cX8_noVotes 2 none ∈ lw_tbl := List.mem_of_getElem? (i := 1052) (by decide +kernel)
theorem wd_X8_notes : Cond.code yX8_notes cX8_notes 2 none ∈ lw_tbl := List.mem_of_getElem? (i := 903) (by decide +kernel)
theorem wd_X8_number : Cond.code yX8_number cX8_number 5 none ∈ lw_tbl := List.mem_of_getElem? (i := 1176) (by decide +kernel)
theorem wd_X8_pixelOf : Cond.code yX8_pixelOf cX8_pixelOf 4 (some .int) ∈ lw_tbl := List.mem_of_getElem? (i := 1006) (by decide +kernel)
theorem wd_X8_placeAt : Cond.code yX8_placeAt cX8_placeAt 4 (some .int) ∈ lw_tbl := List.mem_of_getElem? (i := 929) (by decide +kernel)
theorem wd_X8_rowFits : Cond.code yX8_rowFits cX8_rowFits 6 (some .boolean) ∈ lw_tbl := List.mem_of_getElem? (i := 1128) (by decide +kernel)
theorem wd_X8_shown : Cond.code yX8_shown cX8_shown 6 (some .int) ∈ lw_tbl := List.mem_of_getElem? (i := 955) (by decide +kernel)
theorem wd_X8_sign : Cond.code yX8_sign cX8_sign 2 none ∈ lw_tbl := List.mem_of_getElem? (i := 1180) (by decide +kernel)
theorem wd_X8_size : Cond.code yX8_size cX8_size 1 (some .int) ∈ lw_tbl := List.mem_of_getElem? (i := 1040) (by decide +kernel)
theorem wd_X8_slantOf : Cond.code yX8_slantOf cX8_slantOf 3 (some .int) ∈ lw_tbl := List.mem_of_getElem? (i := 1088) (by decide +kernel)
theorem wd_X8_takes : Cond.code yX8_takes cX8_takes 4 none ∈ lw_tbl := List.mem_of_getElem? (i := 968) (by decide +kernel)
theorem wd_X8_toldBy : Cond.code yX8_toldBy cX8_toldBy 5 (some .int) ∈ lw_tbl := List.mem_of_getElem? (i := 1048) (by decide +kernel)
theorem wd_X8_tries : Cond.code yX8_tries cX8_tries 5 none ∈ lw_tbl := List.mem_of_getElem? (i := 1120) (by decide +kernel)
theorem wd_X8_voteBy : Cond.code yX8_voteBy cX8_voteBy 6 (some .int) ∈ lw_tbl := List.mem_of_getElem? (i := 1034) (by decide +kernel)
theorem wd_X8_voteOf : Cond.code yX8_voteOf cX8_voteOf 4 (some .int) ∈ lw_tbl := List.mem_of_getElem? (i := 1031) (by decide +kernel)
theorem wd_X8_votersOf : Cond.code yX8_votersOf cX8_votersOf 8 (some .int) ∈ lw_tbl := List.mem_of_getElem? (i := 1072) (by decide +kernel)
theorem wd_X8_weightOf : Cond.code yX8_weightOf cX8_weightOf 3 (some .int) ∈ lw_tbl := List.mem_of_getElem? (i := 1056) (by decide +kernel)
theorem wd_X8_wrongIn : Cond.code yX8_wrongIn cX8_wrongIn 2 (some .int) ∈ lw_tbl := List.mem_of_getElem? (i := 1184) (by decide +kernel)
theorem wd_X8_wrongNumber : Cond.code yX8_wrongNumber cX8_wrongNumber 6 (some .int) ∈ lw_tbl := List.mem_of_getElem? (i := 913) (by decide +kernel)
theorem wi_X0 : Cond.instantiable RX0 3 ∈ lw_tbl := List.mem_of_getElem? (i := 121) (by decide +kernel)
theorem wi_X1 : Cond.instantiable RX1 11 ∈ lw_tbl := List.mem_of_getElem? (i := 273) (by decide +kernel)
theorem wi_X2 : Cond.instantiable RX2 4 ∈ lw_tbl := List.mem_of_getElem? (i := 193) (by decide +kernel)
theorem wi_X3 : Cond.instantiable RX3 10 ∈ lw_tbl := List.mem_of_getElem? (i := 74) (by decide +kernel)
theorem wi_X4 : Cond.instantiable RX4 10 ∈ lw_tbl := List.mem_of_getElem? (i := 187) (by decide +kernel)
theorem wi_X5 : Cond.instantiable RX5 6 ∈ lw_tbl := List.mem_of_getElem? (i := 88) (by decide +kernel)
theorem wi_X6 : Cond.instantiable RX6 4 ∈ lw_tbl := List.mem_of_getElem? (i := 254) (by decide +kernel)
theorem wl_RX3_15 : Cond.classLink RX3 15 RX5 ∈ lw_tbl := List.mem_of_getElem? (i := 79) (by decide +kernel)
theorem wl_RX3_21 : Cond.classLink RX3 21 RX0 ∈ lw_tbl := List.mem_of_getElem? (i := 81) (by decide +kernel)
theorem wl_RX4_15 : Cond.classLink RX4 15 RX2 ∈ lw_tbl := List.mem_of_getElem? (i := 192) (by decide +kernel)
theorem wl_RX7_24 : Cond.classLink RX7 24 RX4 ∈ lw_tbl := List.mem_of_getElem? (i := 186) (by decide +kernel)
theorem wl_RX7_31 : Cond.classLink RX7 31 RX6 ∈ lw_tbl := List.mem_of_getElem? (i := 253) (by decide +kernel)
theorem wl_RX7_38 : Cond.classLink RX7 38 RX1 ∈ lw_tbl := List.mem_of_getElem? (i := 272) (by decide +kernel)
theorem wl_RX7_45 : Cond.classLink RX7 45 RX0 ∈ lw_tbl := List.mem_of_getElem? (i := 312) (by decide +kernel)
theorem wl_RX7_9 : Cond.classLink RX7 9 RX3 ∈ lw_tbl := List.mem_of_getElem? (i := 73) (by decide +kernel)
theorem wm_RX0_3 : Cond.methodLink RX0 3 Lib.objectInit ∈ lw_tbl := List.mem_of_getElem? (i := 125) (by decide +kernel)
theorem wm_RX1_100 : Cond.methodLink RX1 100 yX3_paint ∈ lw_tbl := List.mem_of_getElem? (i := 700) (by decide +kernel)
theorem wm_RX1_105 : Cond.methodLink RX1 105 yX0_pixelAt ∈ lw_tbl := List.mem_of_getElem? (i := 702) (by decide +kernel)
theorem wm_RX1_27 : Cond.methodLink RX1 27 yX3_thingAt ∈ lw_tbl := List.mem_of_getElem? (i := 686) (by decide +kernel)
theorem wm_RX1_3 : Cond.methodLink RX1 3 Lib.objectInit ∈ lw_tbl := List.mem_of_getElem? (i := 277) (by decide +kernel)
theorem wm_RX1_37 : Cond.methodLink RX1 37 yX1_gatherDemands ∈ lw_tbl := List.mem_of_getElem? (i := 687) (by decide +kernel)
theorem wm_RX1_46 : Cond.methodLink RX1 46 yX1_meetsDemands ∈ lw_tbl := List.mem_of_getElem? (i := 705) (by decide +kernel)
theorem wm_RX1_50 : Cond.methodLink RX1 50 yX1_keepMotion ∈ lw_tbl := List.mem_of_getElem? (i := 710) (by decide +kernel)
theorem wm_RX1_72 : Cond.methodLink RX1 72 yX3_frameAt ∈ lw_tbl := List.mem_of_getElem? (i := 691) (by decide +kernel)
theorem wm_RX1_76 : Cond.methodLink RX1 76 yX3_setting ∈ lw_tbl := List.mem_of_getElem? (i := 692) (by decide +kernel)
theorem wm_RX1_89 : Cond.methodLink RX1 89 yX1_addDemand ∈ lw_tbl := List.mem_of_getElem? (i := 694) (by decide +kernel)
theorem wm_RX1_93 : Cond.methodLink RX1 93 yX3_timeOfRow ∈ lw_tbl := List.mem_of_getElem? (i := 698) (by decide +kernel)
theorem wm_RX1_97 : Cond.methodLink RX1 97 yX3_percentAt ∈ lw_tbl := List.mem_of_getElem? (i := 699) (by decide +kernel)
theorem wm_RX2_15 : Cond.methodLink RX2 15 yX4_signAt ∈ lw_tbl := List.mem_of_getElem? (i := 777) (by decide +kernel)
theorem wm_RX2_25 : Cond.methodLink RX2 25 yX2_numbersBehind ∈ lw_tbl := List.mem_of_getElem? (i := 781) (by decide +kernel)
theorem wm_RX2_3 : Cond.methodLink RX2 3 Lib.objectInit ∈ lw_tbl := List.mem_of_getElem? (i := 197) (by decide +kernel)
theorem wm_RX2_37 : Cond.methodLink RX2 37 yX2_readSign ∈ lw_tbl := List.mem_of_getElem? (i := 784) (by decide +kernel)
theorem wm_RX2_41 : Cond.methodLink RX2 41 yX2_readNumber ∈ lw_tbl := List.mem_of_getElem? (i := 788) (by decide +kernel)
theorem wm_RX2_45 : Cond.methodLink RX2 45 yX2_isDigit ∈ lw_tbl := List.mem_of_getElem? (i := 792) (by decide +kernel)
theorem wm_RX2_53 : Cond.methodLink RX2 53 yX2_numberAt ∈ lw_tbl := List.mem_of_getElem? (i := 803) (by decide +kernel)
theorem wm_RX2_65 : Cond.methodLink RX2 65 yX3_addThing ∈ lw_tbl := List.mem_of_getElem? (i := 825) (by decide +kernel)
theorem wm_RX2_74 : Cond.methodLink RX2 74 yX3_takeFrame ∈ lw_tbl := List.mem_of_getElem? (i := 826) (by decide +kernel)
theorem wm_RX3_102 : Cond.methodLink RX3 102 yX3_photograph ∈ lw_tbl := List.mem_of_getElem? (i := 501) (by decide +kernel)
theorem wm_RX3_106 : Cond.methodLink RX3 106 yX3_setting ∈ lw_tbl := List.mem_of_getElem? (i := 456) (by decide +kernel)
theorem wm_RX3_116 : Cond.methodLink RX3 116 yX3_timeOfRow ∈ lw_tbl := List.mem_of_getElem? (i := 505) (by decide +kernel)
theorem wm_RX3_120 : Cond.methodLink RX3 120 yX3_paint ∈ lw_tbl := List.mem_of_getElem? (i := 509) (by decide +kernel)
theorem wm_RX3_124 : Cond.methodLink RX3 124 yX3_percentAt ∈ lw_tbl := List.mem_of_getElem? (i := 510) (by decide +kernel)
theorem wm_RX3_127 : Cond.methodLink RX3 127 yX0_keepRow ∈ lw_tbl := List.mem_of_getElem? (i := 511) (by decide +kernel)
theorem wm_RX3_135 : Cond.methodLink RX3 135 yX5_isIn ∈ lw_tbl := List.mem_of_getElem? (i := 457) (by decide +kernel)
theorem wm_RX3_139 : Cond.methodLink RX3 139 yX5_positionAt ∈ lw_tbl := List.mem_of_getElem? (i := 461) (by decide +kernel)
theorem wm_RX3_146 : Cond.methodLink RX3 146 yX3_paintOver ∈ lw_tbl := List.mem_of_getElem? (i := 474) (by decide +kernel)
theorem wm_RX3_150 : Cond.methodLink RX3 150 yX0_pixelAt ∈ lw_tbl := List.mem_of_getElem? (i := 534) (by decide +kernel)
theorem wm_RX3_153 : Cond.methodLink RX3 153 yJ9_abs_0f7a4 ∈ lw_tbl := List.mem_of_getElem? (i := 539) (by decide +kernel)
theorem wm_RX3_158 : Cond.methodLink RX3 158 yJ9_max_7cf53 ∈ lw_tbl := List.mem_of_getElem? (i := 599) (by decide +kernel)
theorem wm_RX3_3 : Cond.methodLink RX3 3 Lib.objectInit ∈ lw_tbl := List.mem_of_getElem? (i := 78) (by decide +kernel)
theorem wm_RX3_42 : Cond.methodLink RX3 42 yX3_becomeInThings ∈ lw_tbl := List.mem_of_getElem? (i := 365) (by decide +kernel)
theorem wm_RX3_46 : Cond.methodLink RX3 46 yX3_becomeInFrames ∈ lw_tbl := List.mem_of_getElem? (i := 377) (by decide +kernel)
theorem wm_RX3_59 : Cond.methodLink RX3 59 yX3_thingAt ∈ lw_tbl := List.mem_of_getElem? (i := 369) (by decide +kernel)
theorem wm_RX3_63 : Cond.methodLink RX3 63 yX5_become ∈ lw_tbl := List.mem_of_getElem? (i := 373) (by decide +kernel)
theorem wm_RX3_73 : Cond.methodLink RX3 73 yX3_frameAt ∈ lw_tbl := List.mem_of_getElem? (i := 381) (by decide +kernel)
theorem wm_RX3_77 : Cond.methodLink RX3 77 yX0_become ∈ lw_tbl := List.mem_of_getElem? (i := 385) (by decide +kernel)
theorem wm_RX3_98 : Cond.methodLink RX3 98 yX3_dropFrame ∈ lw_tbl := List.mem_of_getElem? (i := 497) (by decide +kernel)
theorem wm_RX4_3 : Cond.methodLink RX4 3 Lib.objectInit ∈ lw_tbl := List.mem_of_getElem? (i := 191) (by decide +kernel)
theorem wm_RX4_55 : Cond.methodLink RX4 55 yX2_read ∈ lw_tbl := List.mem_of_getElem? (i := 773) (by decide +kernel)
theorem wm_RX4_59 : Cond.methodLink RX4 59 yX4_examineOrder ∈ lw_tbl := List.mem_of_getElem? (i := 795) (by decide +kernel)
theorem wm_RX4_72 : Cond.methodLink RX4 72 yX2_wrongNumber ∈ lw_tbl := List.mem_of_getElem? (i := 799) (by decide +kernel)
theorem wm_RX4_76 : Cond.methodLink RX4 76 yX4_isPossibleThen ∈ lw_tbl := List.mem_of_getElem? (i := 810) (by decide +kernel)
theorem wm_RX4_80 : Cond.methodLink RX4 80 yX2_numberAt ∈ lw_tbl := List.mem_of_getElem? (i := 814) (by decide +kernel)
theorem wm_RX5_1 : Cond.methodLink RX5 1 Lib.objectInit ∈ lw_tbl := List.mem_of_getElem? (i := 92) (by decide +kernel)
theorem wm_RX5_28 : Cond.methodLink RX5 28 yX5_positionAt ∈ lw_tbl := List.mem_of_getElem? (i := 418) (by decide +kernel)
theorem wm_RX6_24 : Cond.methodLink RX6 24 yX6_readEdges ∈ lw_tbl := List.mem_of_getElem? (i := 572) (by decide +kernel)
theorem wm_RX6_28 : Cond.methodLink RX6 28 yX3_setting ∈ lw_tbl := List.mem_of_getElem? (i := 576) (by decide +kernel)
theorem wm_RX6_3 : Cond.methodLink RX6 3 Lib.objectInit ∈ lw_tbl := List.mem_of_getElem? (i := 258) (by decide +kernel)
theorem wm_RX6_34 : Cond.methodLink RX6 34 yX3_edgesIn ∈ lw_tbl := List.mem_of_getElem? (i := 577) (by decide +kernel)
theorem wm_RX6_46 : Cond.methodLink RX6 46 yX6_countVotes ∈ lw_tbl := List.mem_of_getElem? (i := 590) (by decide +kernel)
theorem wm_RX6_50 : Cond.methodLink RX6 50 yX6_readFirst ∈ lw_tbl := List.mem_of_getElem? (i := 646) (by decide +kernel)
theorem wm_RX6_55 : Cond.methodLink RX6 55 yX3_weightOf ∈ lw_tbl := List.mem_of_getElem? (i := 595) (by decide +kernel)
theorem wm_RX6_58 : Cond.methodLink RX6 58 yX6_votersFor ∈ lw_tbl := List.mem_of_getElem? (i := 633) (by decide +kernel)
theorem wm_RX6_61 : Cond.methodLink RX6 61 yJ9_max_7cf53 ∈ lw_tbl := List.mem_of_getElem? (i := 616) (by decide +kernel)
theorem wm_RX6_66 : Cond.methodLink RX6 66 yX6_mostVotes ∈ lw_tbl := List.mem_of_getElem? (i := 612) (by decide +kernel)
theorem wm_RX7_11 : Cond.methodLink RX7 11 yX3_init ∈ lw_tbl := List.mem_of_getElem? (i := 75) (by decide +kernel)
theorem wm_RX7_110 : Cond.methodLink RX7 110 yX5_changeSpeed ∈ lw_tbl := List.mem_of_getElem? (i := 414) (by decide +kernel)
theorem wm_RX7_113 : Cond.methodLink RX7 113 yX5_positionAt ∈ lw_tbl := List.mem_of_getElem? (i := 426) (by decide +kernel)
theorem wm_RX7_116 : Cond.methodLink RX7 116 yX5_numberOf ∈ lw_tbl := List.mem_of_getElem? (i := 427) (by decide +kernel)
theorem wm_RX7_122 : Cond.methodLink RX7 122 yX7_holds ∈ lw_tbl := List.mem_of_getElem? (i := 435) (by decide +kernel)
theorem wm_RX7_126 : Cond.methodLink RX7 126 yJ6_bitCount_0f7a4 ∈ lw_tbl := List.mem_of_getElem? (i := 438) (by decide +kernel)
theorem wm_RX7_131 : Cond.methodLink RX7 131 yX7_isPlace ∈ lw_tbl := List.mem_of_getElem? (i := 448) (by decide +kernel)
theorem wm_RX7_134 : Cond.methodLink RX7 134 yX3_paint ∈ lw_tbl := List.mem_of_getElem? (i := 452) (by decide +kernel)
theorem wm_RX7_138 : Cond.methodLink RX7 138 yX3_percentAt ∈ lw_tbl := List.mem_of_getElem? (i := 479) (by decide +kernel)
theorem wm_RX7_141 : Cond.methodLink RX7 141 yX7_dimmed ∈ lw_tbl := List.mem_of_getElem? (i := 486) (by decide +kernel)
theorem wm_RX7_145 : Cond.methodLink RX7 145 yX3_takeFrame ∈ lw_tbl := List.mem_of_getElem? (i := 493) (by decide +kernel)
theorem wm_RX7_149 : Cond.methodLink RX7 149 yX3_frameAt ∈ lw_tbl := List.mem_of_getElem? (i := 520) (by decide +kernel)
theorem wm_RX7_153 : Cond.methodLink RX7 153 yX3_dropFrame ∈ lw_tbl := List.mem_of_getElem? (i := 521) (by decide +kernel)
theorem wm_RX7_159 : Cond.methodLink RX7 159 yX7_edgeCountOf ∈ lw_tbl := List.mem_of_getElem? (i := 526) (by decide +kernel)
theorem wm_RX7_164 : Cond.methodLink RX7 164 yX0_pixelAt ∈ lw_tbl := List.mem_of_getElem? (i := 547) (by decide +kernel)
theorem wm_RX7_167 : Cond.methodLink RX7 167 yX3_edgesIn ∈ lw_tbl := List.mem_of_getElem? (i := 530) (by decide +kernel)
theorem wm_RX7_171 : Cond.methodLink RX7 171 yX7_isPair ∈ lw_tbl := List.mem_of_getElem? (i := 560) (by decide +kernel)
theorem wm_RX7_174 : Cond.methodLink RX7 174 yX7_voteOn ∈ lw_tbl := List.mem_of_getElem? (i := 564) (by decide +kernel)
theorem wm_RX7_177 : Cond.methodLink RX7 177 yX6_voteOf ∈ lw_tbl := List.mem_of_getElem? (i := 600) (by decide +kernel)
theorem wm_RX7_180 : Cond.methodLink RX7 180 yX6_told ∈ lw_tbl := List.mem_of_getElem? (i := 608) (by decide +kernel)
theorem wm_RX7_184 : Cond.methodLink RX7 184 yX6_votersFor ∈ lw_tbl := List.mem_of_getElem? (i := 621) (by decide +kernel)
theorem wm_RX7_187 : Cond.methodLink RX7 187 yX6_votersAtAll ∈ lw_tbl := List.mem_of_getElem? (i := 629) (by decide +kernel)
theorem wm_RX7_190 : Cond.methodLink RX7 190 yX6_voteOnSlant ∈ lw_tbl := List.mem_of_getElem? (i := 642) (by decide +kernel)
theorem wm_RX7_194 : Cond.methodLink RX7 194 yX6_weigh ∈ lw_tbl := List.mem_of_getElem? (i := 655) (by decide +kernel)
theorem wm_RX7_198 : Cond.methodLink RX7 198 yX3_judgeRows ∈ lw_tbl := List.mem_of_getElem? (i := 663) (by decide +kernel)
theorem wm_RX7_201 : Cond.methodLink RX7 201 yX3_weightOf ∈ lw_tbl := List.mem_of_getElem? (i := 671) (by decide +kernel)
theorem wm_RX7_210 : Cond.methodLink RX7 210 yX6_readFirst ∈ lw_tbl := List.mem_of_getElem? (i := 568) (by decide +kernel)
theorem wm_RX7_213 : Cond.methodLink RX7 213 yX3_photograph ∈ lw_tbl := List.mem_of_getElem? (i := 676) (by decide +kernel)
theorem wm_RX7_217 : Cond.methodLink RX7 217 yX6_readSecond ∈ lw_tbl := List.mem_of_getElem? (i := 578) (by decide +kernel)
theorem wm_RX7_220 : Cond.methodLink RX7 220 yX6_voteOnShift ∈ lw_tbl := List.mem_of_getElem? (i := 582) (by decide +kernel)
theorem wm_RX7_223 : Cond.methodLink RX7 223 yX6_mostVotes ∈ lw_tbl := List.mem_of_getElem? (i := 677) (by decide +kernel)
theorem wm_RX7_226 : Cond.methodLink RX7 226 yX1_run ∈ lw_tbl := List.mem_of_getElem? (i := 682) (by decide +kernel)
theorem wm_RX7_230 : Cond.methodLink RX7 230 yX1_isVain ∈ lw_tbl := List.mem_of_getElem? (i := 714) (by decide +kernel)
theorem wm_RX7_234 : Cond.methodLink RX7 234 yX1_answer ∈ lw_tbl := List.mem_of_getElem? (i := 718) (by decide +kernel)
theorem wm_RX7_238 : Cond.methodLink RX7 238 yX7_periodsFitting ∈ lw_tbl := List.mem_of_getElem? (i := 727) (by decide +kernel)
theorem wm_RX7_241 : Cond.methodLink RX7 241 yX3_timeOfRow ∈ lw_tbl := List.mem_of_getElem? (i := 731) (by decide +kernel)
theorem wm_RX7_244 : Cond.methodLink RX7 244 yX7_rowFits ∈ lw_tbl := List.mem_of_getElem? (i := 737) (by decide +kernel)
theorem wm_RX7_251 : Cond.methodLink RX7 251 yX7_isDark ∈ lw_tbl := List.mem_of_getElem? (i := 736) (by decide +kernel)
theorem wm_RX7_257 : Cond.methodLink RX7 257 yX3_become ∈ lw_tbl := List.mem_of_getElem? (i := 361) (by decide +kernel)
theorem wm_RX7_260 : Cond.methodLink RX7 260 yX4_append ∈ lw_tbl := List.mem_of_getElem? (i := 757) (by decide +kernel)
theorem wm_RX7_264 : Cond.methodLink RX7 264 yX4_examine ∈ lw_tbl := List.mem_of_getElem? (i := 769) (by decide +kernel)
theorem wm_RX7_283 : Cond.methodLink RX7 283 yX2_read ∈ lw_tbl := List.mem_of_getElem? (i := 820) (by decide +kernel)
theorem wm_RX7_289 : Cond.methodLink RX7 289 yX2_perform ∈ lw_tbl := List.mem_of_getElem? (i := 821) (by decide +kernel)
theorem wm_RX7_296 : Cond.methodLink RX7 296 yX7_dropOldestState ∈ lw_tbl := List.mem_of_getElem? (i := 357) (by decide +kernel)
theorem wm_RX7_299 : Cond.methodLink RX7 299 yX7_darkPeriods ∈ lw_tbl := List.mem_of_getElem? (i := 732) (by decide +kernel)
theorem wm_RX7_3 : Cond.methodLink RX7 3 Lib.objectInit ∈ lw_tbl := List.mem_of_getElem? (i := 70) (by decide +kernel)
theorem wm_RX7_302 : Cond.methodLink RX7 302 yJ9_floorDiv_7cf53 ∈ lw_tbl := List.mem_of_getElem? (i := 465) (by decide +kernel)
theorem wm_RX7_307 : Cond.methodLink RX7 307 yJ9_min_7cf53 ∈ lw_tbl := List.mem_of_getElem? (i := 468) (by decide +kernel)
theorem wm_RX7_310 : Cond.methodLink RX7 310 yJ9_max_7cf53 ∈ lw_tbl := List.mem_of_getElem? (i := 471) (by decide +kernel)
theorem wm_RX7_56 : Cond.methodLink RX7 56 yX7_isWithin ∈ lw_tbl := List.mem_of_getElem? (i := 343) (by decide +kernel)
theorem wm_RX7_64 : Cond.methodLink RX7 64 yX7_numberIn ∈ lw_tbl := List.mem_of_getElem? (i := 349) (by decide +kernel)
theorem wm_RX7_75 : Cond.methodLink RX7 75 yX7_recordState ∈ lw_tbl := List.mem_of_getElem? (i := 353) (by decide +kernel)
theorem wm_RX7_78 : Cond.methodLink RX7 78 yX3_setting ∈ lw_tbl := List.mem_of_getElem? (i := 389) (by decide +kernel)
theorem wm_RX7_82 : Cond.methodLink RX7 82 yX3_changeSetting ∈ lw_tbl := List.mem_of_getElem? (i := 393) (by decide +kernel)
theorem wm_RX7_86 : Cond.methodLink RX7 86 yX7_wrongOfThing ∈ lw_tbl := List.mem_of_getElem? (i := 401) (by decide +kernel)
theorem wm_RX7_94 : Cond.methodLink RX7 94 yX3_addThing ∈ lw_tbl := List.mem_of_getElem? (i := 405) (by decide +kernel)
theorem wm_RX7_98 : Cond.methodLink RX7 98 yX3_thingAt ∈ lw_tbl := List.mem_of_getElem? (i := 413) (by decide +kernel)
theorem wm_RX8_1 : Cond.methodLink RX8 1 Lib.objectInit ∈ lw_tbl := List.mem_of_getElem? (i := 832) (by decide +kernel)
theorem wm_RX8_100 : Cond.methodLink RX8 100 yX8_frameValue ∈ lw_tbl := List.mem_of_getElem? (i := 984) (by decide +kernel)
theorem wm_RX8_104 : Cond.methodLink RX8 104 yX8_has ∈ lw_tbl := List.mem_of_getElem? (i := 1000) (by decide +kernel)
theorem wm_RX8_107 : Cond.methodLink RX8 107 yX8_isSeen ∈ lw_tbl := List.mem_of_getElem? (i := 996) (by decide +kernel)
theorem wm_RX8_110 : Cond.methodLink RX8 110 yX8_pixelOf ∈ lw_tbl := List.mem_of_getElem? (i := 1003) (by decide +kernel)
theorem wm_RX8_114 : Cond.methodLink RX8 114 yX8_isEdge ∈ lw_tbl := List.mem_of_getElem? (i := 992) (by decide +kernel)
theorem wm_RX8_117 : Cond.methodLink RX8 117 yX8_edgesIn ∈ lw_tbl := List.mem_of_getElem? (i := 988) (by decide +kernel)
theorem wm_RX8_121 : Cond.methodLink RX8 121 yX8_agreeing ∈ lw_tbl := List.mem_of_getElem? (i := 1035) (by decide +kernel)
theorem wm_RX8_124 : Cond.methodLink RX8 124 yX8_size ∈ lw_tbl := List.mem_of_getElem? (i := 1038) (by decide +kernel)
theorem wm_RX8_127 : Cond.methodLink RX8 127 yX8_voteBy ∈ lw_tbl := List.mem_of_getElem? (i := 1032) (by decide +kernel)
theorem wm_RX8_130 : Cond.methodLink RX8 130 yX8_areFrames ∈ lw_tbl := List.mem_of_getElem? (i := 1024) (by decide +kernel)
theorem wm_RX8_133 : Cond.methodLink RX8 133 yX8_voteOf ∈ lw_tbl := List.mem_of_getElem? (i := 1028) (by decide +kernel)
theorem wm_RX8_136 : Cond.methodLink RX8 136 yX8_noVotes ∈ lw_tbl := List.mem_of_getElem? (i := 1049) (by decide +kernel)
theorem wm_RX8_139 : Cond.methodLink RX8 139 yX8_weightOf ∈ lw_tbl := List.mem_of_getElem? (i := 1053) (by decide +kernel)
theorem wm_RX8_142 : Cond.methodLink RX8 142 yX8_counts ∈ lw_tbl := List.mem_of_getElem? (i := 1057) (by decide +kernel)
theorem wm_RX8_146 : Cond.methodLink RX8 146 yX8_mostVoted ∈ lw_tbl := List.mem_of_getElem? (i := 1061) (by decide +kernel)
theorem wm_RX8_150 : Cond.methodLink RX8 150 yX8_toldBy ∈ lw_tbl := List.mem_of_getElem? (i := 1045) (by decide +kernel)
theorem wm_RX8_154 : Cond.methodLink RX8 154 yX8_votersOf ∈ lw_tbl := List.mem_of_getElem? (i := 1069) (by decide +kernel)
theorem wm_RX8_158 : Cond.methodLink RX8 158 yX8_slantOf ∈ lw_tbl := List.mem_of_getElem? (i := 1085) (by decide +kernel)
theorem wm_RX8_161 : Cond.methodLink RX8 161 yX8_edgesAt ∈ lw_tbl := List.mem_of_getElem? (i := 1109) (by decide +kernel)
theorem wm_RX8_164 : Cond.methodLink RX8 164 yX8_rowFits ∈ lw_tbl := List.mem_of_getElem? (i := 1125) (by decide +kernel)
theorem wm_RX8_171 : Cond.methodLink RX8 171 yX8_allFit ∈ lw_tbl := List.mem_of_getElem? (i := 1121) (by decide +kernel)
theorem wm_RX8_187 : Cond.methodLink RX8 187 yX8_tries ∈ lw_tbl := List.mem_of_getElem? (i := 1117) (by decide +kernel)
theorem wm_RX8_200 : Cond.methodLink RX8 200 yX8_look ∈ lw_tbl := List.mem_of_getElem? (i := 1169) (by decide +kernel)
theorem wm_RX8_203 : Cond.methodLink RX8 203 yX8_number ∈ lw_tbl := List.mem_of_getElem? (i := 1173) (by decide +kernel)
theorem wm_RX8_206 : Cond.methodLink RX8 206 yX8_sign ∈ lw_tbl := List.mem_of_getElem? (i := 1177) (by decide +kernel)
theorem wm_RX8_218 : Cond.methodLink RX8 218 yX8_faults ∈ lw_tbl := List.mem_of_getElem? (i := 1161) (by decide +kernel)
theorem wm_RX8_222 : Cond.methodLink RX8 222 yX8_form ∈ lw_tbl := List.mem_of_getElem? (i := 1165) (by decide +kernel)
theorem wm_RX8_225 : Cond.methodLink RX8 225 yX8_wrongIn ∈ lw_tbl := List.mem_of_getElem? (i := 1181) (by decide +kernel)
theorem wm_RX8_228 : Cond.methodLink RX8 228 yX8_can ∈ lw_tbl := List.mem_of_getElem? (i := 1185) (by decide +kernel)
theorem wm_RX8_231 : Cond.methodLink RX8 231 yX8_does ∈ lw_tbl := List.mem_of_getElem? (i := 1188) (by decide +kernel)
theorem wm_RX8_234 : Cond.methodLink RX8 234 yX8_done ∈ lw_tbl := List.mem_of_getElem? (i := 1157) (by decide +kernel)
theorem wm_RX8_32 : Cond.methodLink RX8 32 yX8_copies ∈ lw_tbl := List.mem_of_getElem? (i := 904) (by decide +kernel)
theorem wm_RX8_36 : Cond.methodLink RX8 36 yX8_in ∈ lw_tbl := List.mem_of_getElem? (i := 895) (by decide +kernel)
theorem wm_RX8_40 : Cond.methodLink RX8 40 yX8_isSetting ∈ lw_tbl := List.mem_of_getElem? (i := 892) (by decide +kernel)
theorem wm_RX8_46 : Cond.methodLink RX8 46 yX8_notes ∈ lw_tbl := List.mem_of_getElem? (i := 900) (by decide +kernel)
theorem wm_RX8_50 : Cond.methodLink RX8 50 yX8_wrongNumber ∈ lw_tbl := List.mem_of_getElem? (i := 911) (by decide +kernel)
theorem wm_RX8_55 : Cond.methodLink RX8 55 yX8_adds ∈ lw_tbl := List.mem_of_getElem? (i := 916) (by decide +kernel)
theorem wm_RX8_59 : Cond.methodLink RX8 59 yX8_isThing ∈ lw_tbl := List.mem_of_getElem? (i := 923) (by decide +kernel)
theorem wm_RX8_63 : Cond.methodLink RX8 63 yX8_placeAt ∈ lw_tbl := List.mem_of_getElem? (i := 927) (by decide +kernel)
theorem wm_RX8_67 : Cond.methodLink RX8 67 yX8_bits ∈ lw_tbl := List.mem_of_getElem? (i := 938) (by decide +kernel)
theorem wm_RX8_71 : Cond.methodLink RX8 71 yX8_covers ∈ lw_tbl := List.mem_of_getElem? (i := 956) (by decide +kernel)
theorem wm_RX8_75 : Cond.methodLink RX8 75 yX8_isDark ∈ lw_tbl := List.mem_of_getElem? (i := 959) (by decide +kernel)
theorem wm_RX8_79 : Cond.methodLink RX8 79 yX8_isRow ∈ lw_tbl := List.mem_of_getElem? (i := 945) (by decide +kernel)
theorem wm_RX8_82 : Cond.methodLink RX8 82 yX8_isColumn ∈ lw_tbl := List.mem_of_getElem? (i := 949) (by decide +kernel)
theorem wm_RX8_85 : Cond.methodLink RX8 85 yX8_shown ∈ lw_tbl := List.mem_of_getElem? (i := 953) (by decide +kernel)
theorem wm_RX8_89 : Cond.methodLink RX8 89 yX8_drops ∈ lw_tbl := List.mem_of_getElem? (i := 969) (by decide +kernel)
theorem wm_RX8_93 : Cond.methodLink RX8 93 yX8_takes ∈ lw_tbl := List.mem_of_getElem? (i := 966) (by decide +kernel)
theorem wm_RX8_97 : Cond.methodLink RX8 97 yX8_isFrame ∈ lw_tbl := List.mem_of_getElem? (i := 976) (by decide +kernel)
theorem wn_RX0_22 : Cond.methodLinkNest RX0 22 yX7_numberIn "RowVotes" ∈ lw_tbl := List.mem_of_getElem? (i := 538) (by decide +kernel)
theorem wn_RX0_26 : Cond.methodLinkNest RX0 26 yX7_dimmed "RowVotes" ∈ lw_tbl := List.mem_of_getElem? (i := 515) (by decide +kernel)
theorem wn_RX1_109 : Cond.methodLinkNest RX1 109 yX7_numberIn "RowVotes" ∈ lw_tbl := List.mem_of_getElem? (i := 703) (by decide +kernel)
theorem wn_RX1_113 : Cond.methodLinkNest RX1 113 yX7_dimmed "RowVotes" ∈ lw_tbl := List.mem_of_getElem? (i := 704) (by decide +kernel)
theorem wn_RX1_116 : Cond.methodLinkNest RX1 116 yX7_columnsCovered "RowVotes" ∈ lw_tbl := List.mem_of_getElem? (i := 709) (by decide +kernel)
theorem wn_RX1_85 : Cond.methodLinkNest RX1 85 yX7_holds "RowVotes" ∈ lw_tbl := List.mem_of_getElem? (i := 693) (by decide +kernel)
theorem wn_RX2_49 : Cond.methodLinkNest RX2 49 yX7_numberIn "RowVotes" ∈ lw_tbl := List.mem_of_getElem? (i := 807) (by decide +kernel)
theorem wn_RX2_57 : Cond.methodLinkNest RX2 57 yX7_wrongOfThing "RowVotes" ∈ lw_tbl := List.mem_of_getElem? (i := 808) (by decide +kernel)
theorem wn_RX2_61 : Cond.methodLinkNest RX2 61 yX7_isWithin "RowVotes" ∈ lw_tbl := List.mem_of_getElem? (i := 809) (by decide +kernel)
theorem wn_RX3_112 : Cond.methodLinkNest RX3 112 yX7_holds "RowVotes" ∈ lw_tbl := List.mem_of_getElem? (i := 478) (by decide +kernel)
theorem wn_RX3_131 : Cond.methodLinkNest RX3 131 yX7_isDark "RowVotes" ∈ lw_tbl := List.mem_of_getElem? (i := 483) (by decide +kernel)
theorem wn_RX3_142 : Cond.methodLinkNest RX3 142 yX7_columnsCovered "RowVotes" ∈ lw_tbl := List.mem_of_getElem? (i := 462) (by decide +kernel)
theorem wn_RX3_36 : Cond.methodLinkNest RX3 36 yX7_numberIn "RowVotes" ∈ lw_tbl := List.mem_of_getElem? (i := 85) (by decide +kernel)
theorem wn_RX3_40 : Cond.methodLinkNest RX3 40 yX5_init "RowVotes" ∈ lw_tbl := List.mem_of_getElem? (i := 89) (by decide +kernel)
theorem wn_RX3_41 : Cond.methodLinkNest RX3 41 yX0_init "RowVotes" ∈ lw_tbl := List.mem_of_getElem? (i := 122) (by decide +kernel)
theorem wn_RX4_17 : Cond.methodLinkNest RX4 17 yX2_init "RowVotes" ∈ lw_tbl := List.mem_of_getElem? (i := 194) (by decide +kernel)
theorem wn_RX4_84 : Cond.methodLinkNest RX4 84 yX7_holds "RowVotes" ∈ lw_tbl := List.mem_of_getElem? (i := 815) (by decide +kernel)
theorem wn_RX6_38 : Cond.methodLinkNest RX6 38 yX7_numberIn "RowVotes" ∈ lw_tbl := List.mem_of_getElem? (i := 586) (by decide +kernel)
theorem wn_RX6_42 : Cond.methodLinkNest RX6 42 yX7_bestShift "RowVotes" ∈ lw_tbl := List.mem_of_getElem? (i := 587) (by decide +kernel)
theorem wn_RX7_26 : Cond.methodLinkNest RX7 26 yX4_init "RowVotes" ∈ lw_tbl := List.mem_of_getElem? (i := 188) (by decide +kernel)
theorem wn_RX7_33 : Cond.methodLinkNest RX7 33 yX6_init "RowVotes" ∈ lw_tbl := List.mem_of_getElem? (i := 255) (by decide +kernel)
theorem wn_RX7_40 : Cond.methodLinkNest RX7 40 yX1_init "RowVotes" ∈ lw_tbl := List.mem_of_getElem? (i := 274) (by decide +kernel)
theorem wn_RX7_47 : Cond.methodLinkNest RX7 47 yX0_init "RowVotes" ∈ lw_tbl := List.mem_of_getElem? (i := 313) (by decide +kernel)
theorem ws_RX3_33 : Cond.fieldLinkNest RX3 33 RX7 (snm 3) "[I" "RowVotes" ∈ lw_tbl := List.mem_of_getElem? (i := 83) (by decide +kernel)
theorem ws_RX7_61 : Cond.fieldLink RX7 61 RX7 (snm 1) "[I" ∈ lw_tbl := List.mem_of_getElem? (i := 347) (by decide +kernel)
theorem ws_RX7_68 : Cond.fieldLink RX7 68 RX7 (snm 2) "[I" ∈ lw_tbl := List.mem_of_getElem? (i := 350) (by decide +kernel)
theorem wt_J6_bitCount_0f7a4 : Cond.static yJ6_bitCount_0f7a4 ∈ lw_tbl := List.mem_of_getElem? (i := 439) (by decide +kernel)
theorem wt_J9_abs_0f7a4 : Cond.static yJ9_abs_0f7a4 ∈ lw_tbl := List.mem_of_getElem? (i := 540) (by decide +kernel)
theorem wt_J9_floorDiv_7cf53 : Cond.static yJ9_floorDiv_7cf53 ∈ lw_tbl := List.mem_of_getElem? (i := 466) (by decide +kernel)
theorem wt_J9_max_7cf53 : Cond.static yJ9_max_7cf53 ∈ lw_tbl := List.mem_of_getElem? (i := 472) (by decide +kernel)
theorem wt_J9_min_7cf53 : Cond.static yJ9_min_7cf53 ∈ lw_tbl := List.mem_of_getElem? (i := 469) (by decide +kernel)
theorem wt_X2_isDigit : Cond.static yX2_isDigit ∈ lw_tbl := List.mem_of_getElem? (i := 793) (by decide +kernel)
theorem wt_X2_numbersBehind : Cond.static yX2_numbersBehind ∈ lw_tbl := List.mem_of_getElem? (i := 782) (by decide +kernel)
theorem wt_X7_bestShift : Cond.static yX7_bestShift ∈ lw_tbl := List.mem_of_getElem? (i := 588) (by decide +kernel)
theorem wt_X7_columnsCovered : Cond.static yX7_columnsCovered ∈ lw_tbl := List.mem_of_getElem? (i := 463) (by decide +kernel)
theorem wt_X7_dimmed : Cond.static yX7_dimmed ∈ lw_tbl := List.mem_of_getElem? (i := 487) (by decide +kernel)
theorem wt_X7_holds : Cond.static yX7_holds ∈ lw_tbl := List.mem_of_getElem? (i := 436) (by decide +kernel)
theorem wt_X7_isDark : Cond.static yX7_isDark ∈ lw_tbl := List.mem_of_getElem? (i := 484) (by decide +kernel)
theorem wt_X7_isWithin : Cond.static yX7_isWithin ∈ lw_tbl := List.mem_of_getElem? (i := 344) (by decide +kernel)
theorem wt_X7_numberIn : Cond.static yX7_numberIn ∈ lw_tbl := List.mem_of_getElem? (i := 86) (by decide +kernel)
theorem wt_X7_wrongOfThing : Cond.static yX7_wrongOfThing ∈ lw_tbl := List.mem_of_getElem? (i := 402) (by decide +kernel)
theorem wt_X8_adds : Cond.static yX8_adds ∈ lw_tbl := List.mem_of_getElem? (i := 917) (by decide +kernel)
theorem wt_X8_agreeing : Cond.static yX8_agreeing ∈ lw_tbl := List.mem_of_getElem? (i := 1036) (by decide +kernel)
theorem wt_X8_bits : Cond.static yX8_bits ∈ lw_tbl := List.mem_of_getElem? (i := 939) (by decide +kernel)
theorem wt_X8_can : Cond.static yX8_can ∈ lw_tbl := List.mem_of_getElem? (i := 1186) (by decide +kernel)
theorem wt_X8_copies : Cond.static yX8_copies ∈ lw_tbl := List.mem_of_getElem? (i := 905) (by decide +kernel)
theorem wt_X8_covers : Cond.static yX8_covers ∈ lw_tbl := List.mem_of_getElem? (i := 957) (by decide +kernel)
theorem wt_X8_drops : Cond.static yX8_drops ∈ lw_tbl := List.mem_of_getElem? (i := 970) (by decide +kernel)
theorem wt_X8_has : Cond.static yX8_has ∈ lw_tbl := List.mem_of_getElem? (i := 1001) (by decide +kernel)
theorem wt_X8_in : Cond.static yX8_in ∈ lw_tbl := List.mem_of_getElem? (i := 896) (by decide +kernel)
theorem wt_X8_isDark : Cond.static yX8_isDark ∈ lw_tbl := List.mem_of_getElem? (i := 960) (by decide +kernel)
theorem wt_X8_isSetting : Cond.static yX8_isSetting ∈ lw_tbl := List.mem_of_getElem? (i := 893) (by decide +kernel)
theorem wt_X8_placeAt : Cond.static yX8_placeAt ∈ lw_tbl := List.mem_of_getElem? (i := 928) (by decide +kernel)
theorem wt_X8_shown : Cond.static yX8_shown ∈ lw_tbl := List.mem_of_getElem? (i := 954) (by decide +kernel)
theorem wt_X8_size : Cond.static yX8_size ∈ lw_tbl := List.mem_of_getElem? (i := 1039) (by decide +kernel)
theorem wt_X8_takes : Cond.static yX8_takes ∈ lw_tbl := List.mem_of_getElem? (i := 967) (by decide +kernel)
theorem wt_X8_voteBy : Cond.static yX8_voteBy ∈ lw_tbl := List.mem_of_getElem? (i := 1033) (by decide +kernel)
theorem wt_X8_wrongNumber : Cond.static yX8_wrongNumber ∈ lw_tbl := List.mem_of_getElem? (i := 912) (by decide +kernel)
theorem wv_X0_become : Cond.instanceMethod yX0_become ∈ lw_tbl := List.mem_of_getElem? (i := 386) (by decide +kernel)
theorem wv_X0_init : Cond.instanceMethod yX0_init ∈ lw_tbl := List.mem_of_getElem? (i := 123) (by decide +kernel)
theorem wv_X0_keepRow : Cond.instanceMethod yX0_keepRow ∈ lw_tbl := List.mem_of_getElem? (i := 512) (by decide +kernel)
theorem wv_X0_pixelAt : Cond.instanceMethod yX0_pixelAt ∈ lw_tbl := List.mem_of_getElem? (i := 535) (by decide +kernel)
theorem wv_X1_addDemand : Cond.instanceMethod yX1_addDemand ∈ lw_tbl := List.mem_of_getElem? (i := 696) (by decide +kernel)
theorem wv_X1_answer : Cond.instanceMethod yX1_answer ∈ lw_tbl := List.mem_of_getElem? (i := 719) (by decide +kernel)
theorem wv_X1_gatherDemands : Cond.instanceMethod yX1_gatherDemands ∈ lw_tbl := List.mem_of_getElem? (i := 689) (by decide +kernel)
theorem wv_X1_init : Cond.instanceMethod yX1_init ∈ lw_tbl := List.mem_of_getElem? (i := 275) (by decide +kernel)
theorem wv_X1_isVain : Cond.instanceMethod yX1_isVain ∈ lw_tbl := List.mem_of_getElem? (i := 715) (by decide +kernel)
theorem wv_X1_keepMotion : Cond.instanceMethod yX1_keepMotion ∈ lw_tbl := List.mem_of_getElem? (i := 712) (by decide +kernel)
theorem wv_X1_meetsDemands : Cond.instanceMethod yX1_meetsDemands ∈ lw_tbl := List.mem_of_getElem? (i := 707) (by decide +kernel)
theorem wv_X1_run : Cond.instanceMethod yX1_run ∈ lw_tbl := List.mem_of_getElem? (i := 683) (by decide +kernel)
theorem wv_X2_init : Cond.instanceMethod yX2_init ∈ lw_tbl := List.mem_of_getElem? (i := 195) (by decide +kernel)
theorem wv_X2_numberAt : Cond.instanceMethod yX2_numberAt ∈ lw_tbl := List.mem_of_getElem? (i := 804) (by decide +kernel)
theorem wv_X2_perform : Cond.instanceMethod yX2_perform ∈ lw_tbl := List.mem_of_getElem? (i := 822) (by decide +kernel)
theorem wv_X2_read : Cond.instanceMethod yX2_read ∈ lw_tbl := List.mem_of_getElem? (i := 774) (by decide +kernel)
theorem wv_X2_readNumber : Cond.instanceMethod yX2_readNumber ∈ lw_tbl := List.mem_of_getElem? (i := 790) (by decide +kernel)
theorem wv_X2_readSign : Cond.instanceMethod yX2_readSign ∈ lw_tbl := List.mem_of_getElem? (i := 786) (by decide +kernel)
theorem wv_X2_wrongNumber : Cond.instanceMethod yX2_wrongNumber ∈ lw_tbl := List.mem_of_getElem? (i := 800) (by decide +kernel)
theorem wv_X3_addThing : Cond.instanceMethod yX3_addThing ∈ lw_tbl := List.mem_of_getElem? (i := 406) (by decide +kernel)
theorem wv_X3_become : Cond.instanceMethod yX3_become ∈ lw_tbl := List.mem_of_getElem? (i := 362) (by decide +kernel)
theorem wv_X3_becomeInFrames : Cond.instanceMethod yX3_becomeInFrames ∈ lw_tbl := List.mem_of_getElem? (i := 379) (by decide +kernel)
theorem wv_X3_becomeInThings : Cond.instanceMethod yX3_becomeInThings ∈ lw_tbl := List.mem_of_getElem? (i := 367) (by decide +kernel)
theorem wv_X3_changeSetting : Cond.instanceMethod yX3_changeSetting ∈ lw_tbl := List.mem_of_getElem? (i := 394) (by decide +kernel)
theorem wv_X3_dropFrame : Cond.instanceMethod yX3_dropFrame ∈ lw_tbl := List.mem_of_getElem? (i := 498) (by decide +kernel)
theorem wv_X3_edgesIn : Cond.instanceMethod yX3_edgesIn ∈ lw_tbl := List.mem_of_getElem? (i := 531) (by decide +kernel)
theorem wv_X3_frameAt : Cond.instanceMethod yX3_frameAt ∈ lw_tbl := List.mem_of_getElem? (i := 382) (by decide +kernel)
theorem wv_X3_init : Cond.instanceMethod yX3_init ∈ lw_tbl := List.mem_of_getElem? (i := 76) (by decide +kernel)
theorem wv_X3_judgeRows : Cond.instanceMethod yX3_judgeRows ∈ lw_tbl := List.mem_of_getElem? (i := 664) (by decide +kernel)
theorem wv_X3_paint : Cond.instanceMethod yX3_paint ∈ lw_tbl := List.mem_of_getElem? (i := 453) (by decide +kernel)
theorem wv_X3_paintOver : Cond.instanceMethod yX3_paintOver ∈ lw_tbl := List.mem_of_getElem? (i := 476) (by decide +kernel)
theorem wv_X3_percentAt : Cond.instanceMethod yX3_percentAt ∈ lw_tbl := List.mem_of_getElem? (i := 480) (by decide +kernel)
theorem wv_X3_photograph : Cond.instanceMethod yX3_photograph ∈ lw_tbl := List.mem_of_getElem? (i := 502) (by decide +kernel)
theorem wv_X3_setting : Cond.instanceMethod yX3_setting ∈ lw_tbl := List.mem_of_getElem? (i := 390) (by decide +kernel)
theorem wv_X3_takeFrame : Cond.instanceMethod yX3_takeFrame ∈ lw_tbl := List.mem_of_getElem? (i := 494) (by decide +kernel)
theorem wv_X3_thingAt : Cond.instanceMethod yX3_thingAt ∈ lw_tbl := List.mem_of_getElem? (i := 370) (by decide +kernel)
theorem wv_X3_timeOfRow : Cond.instanceMethod yX3_timeOfRow ∈ lw_tbl := List.mem_of_getElem? (i := 506) (by decide +kernel)
theorem wv_X3_weightOf : Cond.instanceMethod yX3_weightOf ∈ lw_tbl := List.mem_of_getElem? (i := 596) (by decide +kernel)
theorem wv_X4_append : Cond.instanceMethod yX4_append ∈ lw_tbl := List.mem_of_getElem? (i := 758) (by decide +kernel)
theorem wv_X4_examine : Cond.instanceMethod yX4_examine ∈ lw_tbl := List.mem_of_getElem? (i := 770) (by decide +kernel)
theorem wv_X4_examineOrder : Cond.instanceMethod yX4_examineOrder ∈ lw_tbl := List.mem_of_getElem? (i := 797) (by decide +kernel)
theorem wv_X4_init : Cond.instanceMethod yX4_init ∈ lw_tbl := List.mem_of_getElem? (i := 189) (by decide +kernel)
theorem wv_X4_isPossibleThen : Cond.instanceMethod yX4_isPossibleThen ∈ lw_tbl := List.mem_of_getElem? (i := 812) (by decide +kernel)
theorem wv_X4_signAt : Cond.instanceMethod yX4_signAt ∈ lw_tbl := List.mem_of_getElem? (i := 778) (by decide +kernel)
theorem wv_X5_become : Cond.instanceMethod yX5_become ∈ lw_tbl := List.mem_of_getElem? (i := 374) (by decide +kernel)
theorem wv_X5_changeSpeed : Cond.instanceMethod yX5_changeSpeed ∈ lw_tbl := List.mem_of_getElem? (i := 415) (by decide +kernel)
theorem wv_X5_init : Cond.instanceMethod yX5_init ∈ lw_tbl := List.mem_of_getElem? (i := 90) (by decide +kernel)
theorem wv_X5_isIn : Cond.instanceMethod yX5_isIn ∈ lw_tbl := List.mem_of_getElem? (i := 458) (by decide +kernel)
theorem wv_X5_numberOf : Cond.instanceMethod yX5_numberOf ∈ lw_tbl := List.mem_of_getElem? (i := 428) (by decide +kernel)
theorem wv_X5_positionAt : Cond.instanceMethod yX5_positionAt ∈ lw_tbl := List.mem_of_getElem? (i := 419) (by decide +kernel)
theorem wv_X6_countVotes : Cond.instanceMethod yX6_countVotes ∈ lw_tbl := List.mem_of_getElem? (i := 592) (by decide +kernel)
theorem wv_X6_init : Cond.instanceMethod yX6_init ∈ lw_tbl := List.mem_of_getElem? (i := 256) (by decide +kernel)
theorem wv_X6_mostVotes : Cond.instanceMethod yX6_mostVotes ∈ lw_tbl := List.mem_of_getElem? (i := 613) (by decide +kernel)
theorem wv_X6_readEdges : Cond.instanceMethod yX6_readEdges ∈ lw_tbl := List.mem_of_getElem? (i := 574) (by decide +kernel)
theorem wv_X6_readFirst : Cond.instanceMethod yX6_readFirst ∈ lw_tbl := List.mem_of_getElem? (i := 569) (by decide +kernel)
theorem wv_X6_readSecond : Cond.instanceMethod yX6_readSecond ∈ lw_tbl := List.mem_of_getElem? (i := 579) (by decide +kernel)
theorem wv_X6_told : Cond.instanceMethod yX6_told ∈ lw_tbl := List.mem_of_getElem? (i := 609) (by decide +kernel)
theorem wv_X6_voteOf : Cond.instanceMethod yX6_voteOf ∈ lw_tbl := List.mem_of_getElem? (i := 601) (by decide +kernel)
theorem wv_X6_voteOnShift : Cond.instanceMethod yX6_voteOnShift ∈ lw_tbl := List.mem_of_getElem? (i := 583) (by decide +kernel)
theorem wv_X6_voteOnSlant : Cond.instanceMethod yX6_voteOnSlant ∈ lw_tbl := List.mem_of_getElem? (i := 643) (by decide +kernel)
theorem wv_X6_votersAtAll : Cond.instanceMethod yX6_votersAtAll ∈ lw_tbl := List.mem_of_getElem? (i := 630) (by decide +kernel)
theorem wv_X6_votersFor : Cond.instanceMethod yX6_votersFor ∈ lw_tbl := List.mem_of_getElem? (i := 622) (by decide +kernel)
theorem wv_X6_weigh : Cond.instanceMethod yX6_weigh ∈ lw_tbl := List.mem_of_getElem? (i := 656) (by decide +kernel)
theorem wv_X7_darkPeriods : Cond.instanceMethod yX7_darkPeriods ∈ lw_tbl := List.mem_of_getElem? (i := 734) (by decide +kernel)
theorem wv_X7_dropOldestState : Cond.instanceMethod yX7_dropOldestState ∈ lw_tbl := List.mem_of_getElem? (i := 359) (by decide +kernel)
theorem wv_X7_edgeCountOf : Cond.instanceMethod yX7_edgeCountOf ∈ lw_tbl := List.mem_of_getElem? (i := 528) (by decide +kernel)
theorem wv_X7_isPair : Cond.instanceMethod yX7_isPair ∈ lw_tbl := List.mem_of_getElem? (i := 562) (by decide +kernel)
theorem wv_X7_isPlace : Cond.instanceMethod yX7_isPlace ∈ lw_tbl := List.mem_of_getElem? (i := 450) (by decide +kernel)
theorem wv_X7_periodsFitting : Cond.instanceMethod yX7_periodsFitting ∈ lw_tbl := List.mem_of_getElem? (i := 729) (by decide +kernel)
theorem wv_X7_recordState : Cond.instanceMethod yX7_recordState ∈ lw_tbl := List.mem_of_getElem? (i := 355) (by decide +kernel)
theorem wv_X7_rowFits : Cond.instanceMethod yX7_rowFits ∈ lw_tbl := List.mem_of_getElem? (i := 739) (by decide +kernel)
theorem wv_X7_voteOn : Cond.instanceMethod yX7_voteOn ∈ lw_tbl := List.mem_of_getElem? (i := 566) (by decide +kernel)
theorem wv_X8_allFit : Cond.instanceMethod yX8_allFit ∈ lw_tbl := List.mem_of_getElem? (i := 1123) (by decide +kernel)
theorem wv_X8_areFrames : Cond.instanceMethod yX8_areFrames ∈ lw_tbl := List.mem_of_getElem? (i := 1026) (by decide +kernel)
theorem wv_X8_counts : Cond.instanceMethod yX8_counts ∈ lw_tbl := List.mem_of_getElem? (i := 1059) (by decide +kernel)
theorem wv_X8_does : Cond.instanceMethod yX8_does ∈ lw_tbl := List.mem_of_getElem? (i := 1190) (by decide +kernel)
theorem wv_X8_done : Cond.instanceMethod yX8_done ∈ lw_tbl := List.mem_of_getElem? (i := 1159) (by decide +kernel)
theorem wv_X8_edgesAt : Cond.instanceMethod yX8_edgesAt ∈ lw_tbl := List.mem_of_getElem? (i := 1111) (by decide +kernel)
theorem wv_X8_edgesIn : Cond.instanceMethod yX8_edgesIn ∈ lw_tbl := List.mem_of_getElem? (i := 990) (by decide +kernel)
theorem wv_X8_faults : Cond.instanceMethod yX8_faults ∈ lw_tbl := List.mem_of_getElem? (i := 1163) (by decide +kernel)
theorem wv_X8_form : Cond.instanceMethod yX8_form ∈ lw_tbl := List.mem_of_getElem? (i := 1167) (by decide +kernel)
theorem wv_X8_frameValue : Cond.instanceMethod yX8_frameValue ∈ lw_tbl := List.mem_of_getElem? (i := 986) (by decide +kernel)
theorem wv_X8_isColumn : Cond.instanceMethod yX8_isColumn ∈ lw_tbl := List.mem_of_getElem? (i := 951) (by decide +kernel)
theorem wv_X8_isEdge : Cond.instanceMethod yX8_isEdge ∈ lw_tbl := List.mem_of_getElem? (i := 994) (by decide +kernel)
theorem wv_X8_isFrame : Cond.instanceMethod yX8_isFrame ∈ lw_tbl := List.mem_of_getElem? (i := 978) (by decide +kernel)
theorem wv_X8_isRow : Cond.instanceMethod yX8_isRow ∈ lw_tbl := List.mem_of_getElem? (i := 947) (by decide +kernel)
theorem wv_X8_isSeen : Cond.instanceMethod yX8_isSeen ∈ lw_tbl := List.mem_of_getElem? (i := 998) (by decide +kernel)
theorem wv_X8_isThing : Cond.instanceMethod yX8_isThing ∈ lw_tbl := List.mem_of_getElem? (i := 925) (by decide +kernel)
theorem wv_X8_look : Cond.instanceMethod yX8_look ∈ lw_tbl := List.mem_of_getElem? (i := 1171) (by decide +kernel)
theorem wv_X8_mostVoted : Cond.instanceMethod yX8_mostVoted ∈ lw_tbl := List.mem_of_getElem? (i := 1063) (by decide +kernel)
theorem wv_X8_noVotes : Cond.instanceMethod yX8_noVotes ∈ lw_tbl := List.mem_of_getElem? (i := 1051) (by decide +kernel)
theorem wv_X8_notes : Cond.instanceMethod yX8_notes ∈ lw_tbl := List.mem_of_getElem? (i := 902) (by decide +kernel)
theorem wv_X8_number : Cond.instanceMethod yX8_number ∈ lw_tbl := List.mem_of_getElem? (i := 1175) (by decide +kernel)
theorem wv_X8_pixelOf : Cond.instanceMethod yX8_pixelOf ∈ lw_tbl := List.mem_of_getElem? (i := 1005) (by decide +kernel)
theorem wv_X8_rowFits : Cond.instanceMethod yX8_rowFits ∈ lw_tbl := List.mem_of_getElem? (i := 1127) (by decide +kernel)
theorem wv_X8_sign : Cond.instanceMethod yX8_sign ∈ lw_tbl := List.mem_of_getElem? (i := 1179) (by decide +kernel)
theorem wv_X8_slantOf : Cond.instanceMethod yX8_slantOf ∈ lw_tbl := List.mem_of_getElem? (i := 1087) (by decide +kernel)
theorem wv_X8_toldBy : Cond.instanceMethod yX8_toldBy ∈ lw_tbl := List.mem_of_getElem? (i := 1047) (by decide +kernel)
theorem wv_X8_tries : Cond.instanceMethod yX8_tries ∈ lw_tbl := List.mem_of_getElem? (i := 1119) (by decide +kernel)
theorem wv_X8_voteOf : Cond.instanceMethod yX8_voteOf ∈ lw_tbl := List.mem_of_getElem? (i := 1030) (by decide +kernel)
theorem wv_X8_votersOf : Cond.instanceMethod yX8_votersOf ∈ lw_tbl := List.mem_of_getElem? (i := 1071) (by decide +kernel)
theorem wv_X8_weightOf : Cond.instanceMethod yX8_weightOf ∈ lw_tbl := List.mem_of_getElem? (i := 1055) (by decide +kernel)
theorem wv_X8_wrongIn : Cond.instanceMethod yX8_wrongIn ∈ lw_tbl := List.mem_of_getElem? (i := 1183) (by decide +kernel)
theorem wx_X0_become : Cond.selects RX0 yX0_become yX0_become ∈ lw_tbl := List.mem_of_getElem? (i := 387) (by decide +kernel)
theorem wx_X0_keepRow : Cond.selects RX0 yX0_keepRow yX0_keepRow ∈ lw_tbl := List.mem_of_getElem? (i := 513) (by decide +kernel)
theorem wx_X0_pixelAt : Cond.selects RX0 yX0_pixelAt yX0_pixelAt ∈ lw_tbl := List.mem_of_getElem? (i := 536) (by decide +kernel)
theorem wx_X1_addDemand : Cond.selects RX1 yX1_addDemand yX1_addDemand ∈ lw_tbl := List.mem_of_getElem? (i := 12) (by decide +kernel)
theorem wx_X1_answer : Cond.selects RX1 yX1_answer yX1_answer ∈ lw_tbl := List.mem_of_getElem? (i := 720) (by decide +kernel)
theorem wx_X1_gatherDemands : Cond.selects RX1 yX1_gatherDemands yX1_gatherDemands ∈ lw_tbl := List.mem_of_getElem? (i := 11) (by decide +kernel)
theorem wx_X1_isVain : Cond.selects RX1 yX1_isVain yX1_isVain ∈ lw_tbl := List.mem_of_getElem? (i := 716) (by decide +kernel)
theorem wx_X1_keepMotion : Cond.selects RX1 yX1_keepMotion yX1_keepMotion ∈ lw_tbl := List.mem_of_getElem? (i := 14) (by decide +kernel)
theorem wx_X1_meetsDemands : Cond.selects RX1 yX1_meetsDemands yX1_meetsDemands ∈ lw_tbl := List.mem_of_getElem? (i := 13) (by decide +kernel)
theorem wx_X1_run : Cond.selects RX1 yX1_run yX1_run ∈ lw_tbl := List.mem_of_getElem? (i := 684) (by decide +kernel)
theorem wx_X2_numberAt : Cond.selects RX2 yX2_numberAt yX2_numberAt ∈ lw_tbl := List.mem_of_getElem? (i := 805) (by decide +kernel)
theorem wx_X2_perform : Cond.selects RX2 yX2_perform yX2_perform ∈ lw_tbl := List.mem_of_getElem? (i := 823) (by decide +kernel)
theorem wx_X2_read : Cond.selects RX2 yX2_read yX2_read ∈ lw_tbl := List.mem_of_getElem? (i := 775) (by decide +kernel)
theorem wx_X2_readNumber : Cond.selects RX2 yX2_readNumber yX2_readNumber ∈ lw_tbl := List.mem_of_getElem? (i := 19) (by decide +kernel)
theorem wx_X2_readSign : Cond.selects RX2 yX2_readSign yX2_readSign ∈ lw_tbl := List.mem_of_getElem? (i := 18) (by decide +kernel)
theorem wx_X2_wrongNumber : Cond.selects RX2 yX2_wrongNumber yX2_wrongNumber ∈ lw_tbl := List.mem_of_getElem? (i := 801) (by decide +kernel)
theorem wx_X3_addThing : Cond.selects RX3 yX3_addThing yX3_addThing ∈ lw_tbl := List.mem_of_getElem? (i := 407) (by decide +kernel)
theorem wx_X3_become : Cond.selects RX3 yX3_become yX3_become ∈ lw_tbl := List.mem_of_getElem? (i := 363) (by decide +kernel)
theorem wx_X3_becomeInFrames : Cond.selects RX3 yX3_becomeInFrames yX3_becomeInFrames ∈ lw_tbl := List.mem_of_getElem? (i := 3) (by decide +kernel)
theorem wx_X3_becomeInThings : Cond.selects RX3 yX3_becomeInThings yX3_becomeInThings ∈ lw_tbl := List.mem_of_getElem? (i := 2) (by decide +kernel)
theorem wx_X3_changeSetting : Cond.selects RX3 yX3_changeSetting yX3_changeSetting ∈ lw_tbl := List.mem_of_getElem? (i := 395) (by decide +kernel)
theorem wx_X3_dropFrame : Cond.selects RX3 yX3_dropFrame yX3_dropFrame ∈ lw_tbl := List.mem_of_getElem? (i := 499) (by decide +kernel)
theorem wx_X3_edgesIn : Cond.selects RX3 yX3_edgesIn yX3_edgesIn ∈ lw_tbl := List.mem_of_getElem? (i := 532) (by decide +kernel)
theorem wx_X3_frameAt : Cond.selects RX3 yX3_frameAt yX3_frameAt ∈ lw_tbl := List.mem_of_getElem? (i := 383) (by decide +kernel)
theorem wx_X3_judgeRows : Cond.selects RX3 yX3_judgeRows yX3_judgeRows ∈ lw_tbl := List.mem_of_getElem? (i := 665) (by decide +kernel)
theorem wx_X3_paint : Cond.selects RX3 yX3_paint yX3_paint ∈ lw_tbl := List.mem_of_getElem? (i := 454) (by decide +kernel)
theorem wx_X3_paintOver : Cond.selects RX3 yX3_paintOver yX3_paintOver ∈ lw_tbl := List.mem_of_getElem? (i := 5) (by decide +kernel)
theorem wx_X3_percentAt : Cond.selects RX3 yX3_percentAt yX3_percentAt ∈ lw_tbl := List.mem_of_getElem? (i := 481) (by decide +kernel)
theorem wx_X3_photograph : Cond.selects RX3 yX3_photograph yX3_photograph ∈ lw_tbl := List.mem_of_getElem? (i := 503) (by decide +kernel)
theorem wx_X3_setting : Cond.selects RX3 yX3_setting yX3_setting ∈ lw_tbl := List.mem_of_getElem? (i := 391) (by decide +kernel)
theorem wx_X3_takeFrame : Cond.selects RX3 yX3_takeFrame yX3_takeFrame ∈ lw_tbl := List.mem_of_getElem? (i := 495) (by decide +kernel)
theorem wx_X3_thingAt : Cond.selects RX3 yX3_thingAt yX3_thingAt ∈ lw_tbl := List.mem_of_getElem? (i := 371) (by decide +kernel)
theorem wx_X3_timeOfRow : Cond.selects RX3 yX3_timeOfRow yX3_timeOfRow ∈ lw_tbl := List.mem_of_getElem? (i := 507) (by decide +kernel)
theorem wx_X3_weightOf : Cond.selects RX3 yX3_weightOf yX3_weightOf ∈ lw_tbl := List.mem_of_getElem? (i := 597) (by decide +kernel)
theorem wx_X4_append : Cond.selects RX4 yX4_append yX4_append ∈ lw_tbl := List.mem_of_getElem? (i := 759) (by decide +kernel)
theorem wx_X4_examine : Cond.selects RX4 yX4_examine yX4_examine ∈ lw_tbl := List.mem_of_getElem? (i := 771) (by decide +kernel)
theorem wx_X4_examineOrder : Cond.selects RX4 yX4_examineOrder yX4_examineOrder ∈ lw_tbl := List.mem_of_getElem? (i := 20) (by decide +kernel)
theorem wx_X4_isPossibleThen : Cond.selects RX4 yX4_isPossibleThen yX4_isPossibleThen ∈ lw_tbl := List.mem_of_getElem? (i := 21) (by decide +kernel)
theorem wx_X4_signAt : Cond.selects RX4 yX4_signAt yX4_signAt ∈ lw_tbl := List.mem_of_getElem? (i := 779) (by decide +kernel)
theorem wx_X5_become : Cond.selects RX5 yX5_become yX5_become ∈ lw_tbl := List.mem_of_getElem? (i := 375) (by decide +kernel)
theorem wx_X5_changeSpeed : Cond.selects RX5 yX5_changeSpeed yX5_changeSpeed ∈ lw_tbl := List.mem_of_getElem? (i := 416) (by decide +kernel)
theorem wx_X5_isIn : Cond.selects RX5 yX5_isIn yX5_isIn ∈ lw_tbl := List.mem_of_getElem? (i := 459) (by decide +kernel)
theorem wx_X5_numberOf : Cond.selects RX5 yX5_numberOf yX5_numberOf ∈ lw_tbl := List.mem_of_getElem? (i := 429) (by decide +kernel)
theorem wx_X5_positionAt : Cond.selects RX5 yX5_positionAt yX5_positionAt ∈ lw_tbl := List.mem_of_getElem? (i := 420) (by decide +kernel)
theorem wx_X6_countVotes : Cond.selects RX6 yX6_countVotes yX6_countVotes ∈ lw_tbl := List.mem_of_getElem? (i := 10) (by decide +kernel)
theorem wx_X6_mostVotes : Cond.selects RX6 yX6_mostVotes yX6_mostVotes ∈ lw_tbl := List.mem_of_getElem? (i := 614) (by decide +kernel)
theorem wx_X6_readEdges : Cond.selects RX6 yX6_readEdges yX6_readEdges ∈ lw_tbl := List.mem_of_getElem? (i := 9) (by decide +kernel)
theorem wx_X6_readFirst : Cond.selects RX6 yX6_readFirst yX6_readFirst ∈ lw_tbl := List.mem_of_getElem? (i := 570) (by decide +kernel)
theorem wx_X6_readSecond : Cond.selects RX6 yX6_readSecond yX6_readSecond ∈ lw_tbl := List.mem_of_getElem? (i := 580) (by decide +kernel)
theorem wx_X6_told : Cond.selects RX6 yX6_told yX6_told ∈ lw_tbl := List.mem_of_getElem? (i := 610) (by decide +kernel)
theorem wx_X6_voteOf : Cond.selects RX6 yX6_voteOf yX6_voteOf ∈ lw_tbl := List.mem_of_getElem? (i := 602) (by decide +kernel)
theorem wx_X6_voteOnShift : Cond.selects RX6 yX6_voteOnShift yX6_voteOnShift ∈ lw_tbl := List.mem_of_getElem? (i := 584) (by decide +kernel)
theorem wx_X6_voteOnSlant : Cond.selects RX6 yX6_voteOnSlant yX6_voteOnSlant ∈ lw_tbl := List.mem_of_getElem? (i := 644) (by decide +kernel)
theorem wx_X6_votersAtAll : Cond.selects RX6 yX6_votersAtAll yX6_votersAtAll ∈ lw_tbl := List.mem_of_getElem? (i := 631) (by decide +kernel)
theorem wx_X6_votersFor : Cond.selects RX6 yX6_votersFor yX6_votersFor ∈ lw_tbl := List.mem_of_getElem? (i := 623) (by decide +kernel)
theorem wx_X6_weigh : Cond.selects RX6 yX6_weigh yX6_weigh ∈ lw_tbl := List.mem_of_getElem? (i := 657) (by decide +kernel)
theorem wx_X7_darkPeriods : Cond.selects RX7 yX7_darkPeriods yX7_darkPeriods ∈ lw_tbl := List.mem_of_getElem? (i := 16) (by decide +kernel)
theorem wx_X7_dropOldestState : Cond.selects RX7 yX7_dropOldestState yX7_dropOldestState ∈ lw_tbl := List.mem_of_getElem? (i := 1) (by decide +kernel)
theorem wx_X7_edgeCountOf : Cond.selects RX7 yX7_edgeCountOf yX7_edgeCountOf ∈ lw_tbl := List.mem_of_getElem? (i := 6) (by decide +kernel)
theorem wx_X7_isPair : Cond.selects RX7 yX7_isPair yX7_isPair ∈ lw_tbl := List.mem_of_getElem? (i := 7) (by decide +kernel)
theorem wx_X7_isPlace : Cond.selects RX7 yX7_isPlace yX7_isPlace ∈ lw_tbl := List.mem_of_getElem? (i := 4) (by decide +kernel)
theorem wx_X7_periodsFitting : Cond.selects RX7 yX7_periodsFitting yX7_periodsFitting ∈ lw_tbl := List.mem_of_getElem? (i := 15) (by decide +kernel)
theorem wx_X7_recordState : Cond.selects RX7 yX7_recordState yX7_recordState ∈ lw_tbl := List.mem_of_getElem? (i := 0) (by decide +kernel)
theorem wx_X7_rowFits : Cond.selects RX7 yX7_rowFits yX7_rowFits ∈ lw_tbl := List.mem_of_getElem? (i := 17) (by decide +kernel)
theorem wx_X7_voteOn : Cond.selects RX7 yX7_voteOn yX7_voteOn ∈ lw_tbl := List.mem_of_getElem? (i := 8) (by decide +kernel)
theorem wx_X8_allFit : Cond.selects RX8 yX8_allFit yX8_allFit ∈ lw_tbl := List.mem_of_getElem? (i := 43) (by decide +kernel)
theorem wx_X8_areFrames : Cond.selects RX8 yX8_areFrames yX8_areFrames ∈ lw_tbl := List.mem_of_getElem? (i := 32) (by decide +kernel)
theorem wx_X8_counts : Cond.selects RX8 yX8_counts yX8_counts ∈ lw_tbl := List.mem_of_getElem? (i := 37) (by decide +kernel)
theorem wx_X8_does : Cond.selects RX8 yX8_does yX8_does ∈ lw_tbl := List.mem_of_getElem? (i := 52) (by decide +kernel)
theorem wx_X8_done : Cond.selects RX8 yX8_done yX8_done ∈ lw_tbl := List.mem_of_getElem? (i := 45) (by decide +kernel)
theorem wx_X8_edgesAt : Cond.selects RX8 yX8_edgesAt yX8_edgesAt ∈ lw_tbl := List.mem_of_getElem? (i := 41) (by decide +kernel)
theorem wx_X8_edgesIn : Cond.selects RX8 yX8_edgesIn yX8_edgesIn ∈ lw_tbl := List.mem_of_getElem? (i := 28) (by decide +kernel)
theorem wx_X8_faults : Cond.selects RX8 yX8_faults yX8_faults ∈ lw_tbl := List.mem_of_getElem? (i := 46) (by decide +kernel)
theorem wx_X8_form : Cond.selects RX8 yX8_form yX8_form ∈ lw_tbl := List.mem_of_getElem? (i := 47) (by decide +kernel)
theorem wx_X8_frameValue : Cond.selects RX8 yX8_frameValue yX8_frameValue ∈ lw_tbl := List.mem_of_getElem? (i := 27) (by decide +kernel)
theorem wx_X8_isColumn : Cond.selects RX8 yX8_isColumn yX8_isColumn ∈ lw_tbl := List.mem_of_getElem? (i := 25) (by decide +kernel)
theorem wx_X8_isEdge : Cond.selects RX8 yX8_isEdge yX8_isEdge ∈ lw_tbl := List.mem_of_getElem? (i := 29) (by decide +kernel)
theorem wx_X8_isFrame : Cond.selects RX8 yX8_isFrame yX8_isFrame ∈ lw_tbl := List.mem_of_getElem? (i := 26) (by decide +kernel)
theorem wx_X8_isRow : Cond.selects RX8 yX8_isRow yX8_isRow ∈ lw_tbl := List.mem_of_getElem? (i := 24) (by decide +kernel)
theorem wx_X8_isSeen : Cond.selects RX8 yX8_isSeen yX8_isSeen ∈ lw_tbl := List.mem_of_getElem? (i := 30) (by decide +kernel)
theorem wx_X8_isThing : Cond.selects RX8 yX8_isThing yX8_isThing ∈ lw_tbl := List.mem_of_getElem? (i := 23) (by decide +kernel)
theorem wx_X8_look : Cond.selects RX8 yX8_look yX8_look ∈ lw_tbl := List.mem_of_getElem? (i := 48) (by decide +kernel)
theorem wx_X8_mostVoted : Cond.selects RX8 yX8_mostVoted yX8_mostVoted ∈ lw_tbl := List.mem_of_getElem? (i := 38) (by decide +kernel)
theorem wx_X8_noVotes : Cond.selects RX8 yX8_noVotes yX8_noVotes ∈ lw_tbl := List.mem_of_getElem? (i := 35) (by decide +kernel)
theorem wx_X8_notes : Cond.selects RX8 yX8_notes yX8_notes ∈ lw_tbl := List.mem_of_getElem? (i := 22) (by decide +kernel)
theorem wx_X8_number : Cond.selects RX8 yX8_number yX8_number ∈ lw_tbl := List.mem_of_getElem? (i := 49) (by decide +kernel)
theorem wx_X8_pixelOf : Cond.selects RX8 yX8_pixelOf yX8_pixelOf ∈ lw_tbl := List.mem_of_getElem? (i := 31) (by decide +kernel)
theorem wx_X8_rowFits : Cond.selects RX8 yX8_rowFits yX8_rowFits ∈ lw_tbl := List.mem_of_getElem? (i := 44) (by decide +kernel)
theorem wx_X8_sign : Cond.selects RX8 yX8_sign yX8_sign ∈ lw_tbl := List.mem_of_getElem? (i := 50) (by decide +kernel)
theorem wx_X8_slantOf : Cond.selects RX8 yX8_slantOf yX8_slantOf ∈ lw_tbl := List.mem_of_getElem? (i := 40) (by decide +kernel)
theorem wx_X8_toldBy : Cond.selects RX8 yX8_toldBy yX8_toldBy ∈ lw_tbl := List.mem_of_getElem? (i := 34) (by decide +kernel)
theorem wx_X8_tries : Cond.selects RX8 yX8_tries yX8_tries ∈ lw_tbl := List.mem_of_getElem? (i := 42) (by decide +kernel)
theorem wx_X8_voteOf : Cond.selects RX8 yX8_voteOf yX8_voteOf ∈ lw_tbl := List.mem_of_getElem? (i := 33) (by decide +kernel)
theorem wx_X8_votersOf : Cond.selects RX8 yX8_votersOf yX8_votersOf ∈ lw_tbl := List.mem_of_getElem? (i := 39) (by decide +kernel)
theorem wx_X8_weightOf : Cond.selects RX8 yX8_weightOf yX8_weightOf ∈ lw_tbl := List.mem_of_getElem? (i := 36) (by decide +kernel)
theorem wx_X8_wrongIn : Cond.selects RX8 yX8_wrongIn yX8_wrongIn ∈ lw_tbl := List.mem_of_getElem? (i := 51) (by decide +kernel)
theorem wz_RJ6 : Cond.initialized RJ6 ∈ lw_tbl := List.mem_of_getElem? (i := 63) (by decide +kernel)
theorem wz_RJ9 : Cond.initialized RJ9 ∈ lw_tbl := List.mem_of_getElem? (i := 64) (by decide +kernel)
theorem wz_RX0 : Cond.initialized RX0 ∈ lw_tbl := List.mem_of_getElem? (i := 57) (by decide +kernel)
theorem wz_RX1 : Cond.initialized RX1 ∈ lw_tbl := List.mem_of_getElem? (i := 61) (by decide +kernel)
theorem wz_RX2 : Cond.initialized RX2 ∈ lw_tbl := List.mem_of_getElem? (i := 59) (by decide +kernel)
theorem wz_RX3 : Cond.initialized RX3 ∈ lw_tbl := List.mem_of_getElem? (i := 55) (by decide +kernel)
theorem wz_RX4 : Cond.initialized RX4 ∈ lw_tbl := List.mem_of_getElem? (i := 58) (by decide +kernel)
theorem wz_RX5 : Cond.initialized RX5 ∈ lw_tbl := List.mem_of_getElem? (i := 56) (by decide +kernel)
theorem wz_RX6 : Cond.initialized RX6 ∈ lw_tbl := List.mem_of_getElem? (i := 60) (by decide +kernel)
theorem wz_RX7 : Cond.initialized RX7 ∈ lw_tbl := List.mem_of_getElem? (i := 54) (by decide +kernel)
theorem wz_RX8 : Cond.initialized RX8 ∈ lw_tbl := List.mem_of_getElem? (i := 62) (by decide +kernel)
theorem fl_RX0_9 : FL RX0 9 0 2 := ⟨_, rfl, by decide, List.mem_of_getElem? (i := 133) (by decide +kernel)⟩
theorem fl_RX0_15 : FL RX0 15 0 0 := ⟨_, rfl, by decide, List.mem_of_getElem? (i := 126) (by decide +kernel)⟩
theorem fl_RX0_19 : FL RX0 19 0 1 := ⟨_, rfl, by decide, List.mem_of_getElem? (i := 129) (by decide +kernel)⟩
theorem fl_RX1_9 : FL RX1 9 1 0 := ⟨_, rfl, by decide, List.mem_of_getElem? (i := 278) (by decide +kernel)⟩
theorem fl_RX1_15 : FL RX1 15 1 1 := ⟨_, rfl, by decide, List.mem_of_getElem? (i := 279) (by decide +kernel)⟩
theorem fl_RX1_18 : FL RX1 18 1 2 := ⟨_, rfl, by decide, List.mem_of_getElem? (i := 280) (by decide +kernel)⟩
theorem fl_RX1_21 : FL RX1 21 1 4 := ⟨_, rfl, by decide, List.mem_of_getElem? (i := 282) (by decide +kernel)⟩
theorem fl_RX1_24 : FL RX1 24 1 5 := ⟨_, rfl, by decide, List.mem_of_getElem? (i := 283) (by decide +kernel)⟩
theorem fl_RX1_33 : FL RX1 33 1 6 := ⟨_, rfl, by decide, List.mem_of_getElem? (i := 284) (by decide +kernel)⟩
theorem fl_RX1_41 : FL RX1 41 5 4 := ⟨_, rfl, by decide, List.mem_of_getElem? (i := 103) (by decide +kernel)⟩
theorem fl_RX1_54 : FL RX1 54 1 7 := ⟨_, rfl, by decide, List.mem_of_getElem? (i := 285) (by decide +kernel)⟩
theorem fl_RX1_57 : FL RX1 57 1 8 := ⟨_, rfl, by decide, List.mem_of_getElem? (i := 286) (by decide +kernel)⟩
theorem fl_RX1_60 : FL RX1 60 1 9 := ⟨_, rfl, by decide, List.mem_of_getElem? (i := 287) (by decide +kernel)⟩
theorem fl_RX1_63 : FL RX1 63 1 10 := ⟨_, rfl, by decide, List.mem_of_getElem? (i := 288) (by decide +kernel)⟩
theorem fl_RX1_66 : FL RX1 66 1 3 := ⟨_, rfl, by decide, List.mem_of_getElem? (i := 281) (by decide +kernel)⟩
theorem fl_RX1_69 : FL RX1 69 3 4 := ⟨_, rfl, by decide, List.mem_of_getElem? (i := 149) (by decide +kernel)⟩
theorem fl_RX1_80 : FL RX1 80 0 1 := ⟨_, rfl, by decide, List.mem_of_getElem? (i := 130) (by decide +kernel)⟩
theorem fl_RX2_9 : FL RX2 9 2 1 := ⟨_, rfl, by decide, List.mem_of_getElem? (i := 200) (by decide +kernel)⟩
theorem fl_RX2_21 : FL RX2 21 2 0 := ⟨_, rfl, by decide, List.mem_of_getElem? (i := 198) (by decide +kernel)⟩
theorem fl_RX2_29 : FL RX2 29 2 3 := ⟨_, rfl, by decide, List.mem_of_getElem? (i := 204) (by decide +kernel)⟩
theorem fl_RX2_33 : FL RX2 33 2 2 := ⟨_, rfl, by decide, List.mem_of_getElem? (i := 201) (by decide +kernel)⟩
theorem fl_RX2_71 : FL RX2 71 3 6 := ⟨_, rfl, by decide, List.mem_of_getElem? (i := 155) (by decide +kernel)⟩
theorem fl_RX2_78 : FL RX2 78 3 7 := ⟨_, rfl, by decide, List.mem_of_getElem? (i := 159) (by decide +kernel)⟩
theorem fl_RX3_9 : FL RX3 9 3 0 := ⟨_, rfl, by decide, List.mem_of_getElem? (i := 141) (by decide +kernel)⟩
theorem fl_RX3_17 : FL RX3 17 3 1 := ⟨_, rfl, by decide, List.mem_of_getElem? (i := 142) (by decide +kernel)⟩
theorem fl_RX3_23 : FL RX3 23 3 3 := ⟨_, rfl, by decide, List.mem_of_getElem? (i := 146) (by decide +kernel)⟩
theorem fl_RX3_27 : FL RX3 27 3 8 := ⟨_, rfl, by decide, List.mem_of_getElem? (i := 160) (by decide +kernel)⟩
theorem fl_RX3_30 : FL RX3 30 3 9 := ⟨_, rfl, by decide, List.mem_of_getElem? (i := 162) (by decide +kernel)⟩
theorem fl_RX3_49 : FL RX3 49 3 6 := ⟨_, rfl, by decide, List.mem_of_getElem? (i := 152) (by decide +kernel)⟩
theorem fl_RX3_53 : FL RX3 53 3 7 := ⟨_, rfl, by decide, List.mem_of_getElem? (i := 156) (by decide +kernel)⟩
theorem fl_RX3_56 : FL RX3 56 3 2 := ⟨_, rfl, by decide, List.mem_of_getElem? (i := 143) (by decide +kernel)⟩
theorem fl_RX3_67 : FL RX3 67 3 4 := ⟨_, rfl, by decide, List.mem_of_getElem? (i := 148) (by decide +kernel)⟩
theorem fl_RX3_70 : FL RX3 70 3 5 := ⟨_, rfl, by decide, List.mem_of_getElem? (i := 150) (by decide +kernel)⟩
theorem fl_RX3_80 : FL RX3 80 5 0 := ⟨_, rfl, by decide, List.mem_of_getElem? (i := 94) (by decide +kernel)⟩
theorem fl_RX3_83 : FL RX3 83 5 1 := ⟨_, rfl, by decide, List.mem_of_getElem? (i := 96) (by decide +kernel)⟩
theorem fl_RX3_86 : FL RX3 86 5 2 := ⟨_, rfl, by decide, List.mem_of_getElem? (i := 98) (by decide +kernel)⟩
theorem fl_RX3_89 : FL RX3 89 5 3 := ⟨_, rfl, by decide, List.mem_of_getElem? (i := 101) (by decide +kernel)⟩
theorem fl_RX3_92 : FL RX3 92 5 4 := ⟨_, rfl, by decide, List.mem_of_getElem? (i := 104) (by decide +kernel)⟩
theorem fl_RX3_95 : FL RX3 95 5 5 := ⟨_, rfl, by decide, List.mem_of_getElem? (i := 106) (by decide +kernel)⟩
theorem fl_RX3_110 : FL RX3 110 0 0 := ⟨_, rfl, by decide, List.mem_of_getElem? (i := 128) (by decide +kernel)⟩
theorem fl_RX3_111 : FL RX3 111 0 1 := ⟨_, rfl, by decide, List.mem_of_getElem? (i := 132) (by decide +kernel)⟩
theorem fl_RX4_9 : FL RX4 9 4 0 := ⟨_, rfl, by decide, List.mem_of_getElem? (i := 216) (by decide +kernel)⟩
theorem fl_RX4_18 : FL RX4 18 4 2 := ⟨_, rfl, by decide, List.mem_of_getElem? (i := 219) (by decide +kernel)⟩
theorem fl_RX4_22 : FL RX4 22 4 1 := ⟨_, rfl, by decide, List.mem_of_getElem? (i := 217) (by decide +kernel)⟩
theorem fl_RX4_26 : FL RX4 26 3 2 := ⟨_, rfl, by decide, List.mem_of_getElem? (i := 145) (by decide +kernel)⟩
theorem fl_RX4_31 : FL RX4 31 4 7 := ⟨_, rfl, by decide, List.mem_of_getElem? (i := 229) (by decide +kernel)⟩
theorem fl_RX4_34 : FL RX4 34 3 6 := ⟨_, rfl, by decide, List.mem_of_getElem? (i := 153) (by decide +kernel)⟩
theorem fl_RX4_37 : FL RX4 37 4 8 := ⟨_, rfl, by decide, List.mem_of_getElem? (i := 230) (by decide +kernel)⟩
theorem fl_RX4_40 : FL RX4 40 3 7 := ⟨_, rfl, by decide, List.mem_of_getElem? (i := 157) (by decide +kernel)⟩
theorem fl_RX4_43 : FL RX4 43 4 9 := ⟨_, rfl, by decide, List.mem_of_getElem? (i := 231) (by decide +kernel)⟩
theorem fl_RX4_46 : FL RX4 46 4 3 := ⟨_, rfl, by decide, List.mem_of_getElem? (i := 221) (by decide +kernel)⟩
theorem fl_RX4_49 : FL RX4 49 4 4 := ⟨_, rfl, by decide, List.mem_of_getElem? (i := 223) (by decide +kernel)⟩
theorem fl_RX4_52 : FL RX4 52 4 5 := ⟨_, rfl, by decide, List.mem_of_getElem? (i := 225) (by decide +kernel)⟩
theorem fl_RX4_62 : FL RX4 62 2 2 := ⟨_, rfl, by decide, List.mem_of_getElem? (i := 202) (by decide +kernel)⟩
theorem fl_RX4_65 : FL RX4 65 2 3 := ⟨_, rfl, by decide, List.mem_of_getElem? (i := 205) (by decide +kernel)⟩
theorem fl_RX4_69 : FL RX4 69 4 6 := ⟨_, rfl, by decide, List.mem_of_getElem? (i := 227) (by decide +kernel)⟩
theorem fl_RX4_88 : FL RX4 88 2 0 := ⟨_, rfl, by decide, List.mem_of_getElem? (i := 199) (by decide +kernel)⟩
theorem fl_RX5_7 : FL RX5 7 5 0 := ⟨_, rfl, by decide, List.mem_of_getElem? (i := 93) (by decide +kernel)⟩
theorem fl_RX5_13 : FL RX5 13 5 1 := ⟨_, rfl, by decide, List.mem_of_getElem? (i := 95) (by decide +kernel)⟩
theorem fl_RX5_16 : FL RX5 16 5 2 := ⟨_, rfl, by decide, List.mem_of_getElem? (i := 97) (by decide +kernel)⟩
theorem fl_RX5_19 : FL RX5 19 5 3 := ⟨_, rfl, by decide, List.mem_of_getElem? (i := 99) (by decide +kernel)⟩
theorem fl_RX5_22 : FL RX5 22 5 4 := ⟨_, rfl, by decide, List.mem_of_getElem? (i := 102) (by decide +kernel)⟩
theorem fl_RX5_25 : FL RX5 25 5 5 := ⟨_, rfl, by decide, List.mem_of_getElem? (i := 105) (by decide +kernel)⟩
theorem fl_RX6_9 : FL RX6 9 6 0 := ⟨_, rfl, by decide, List.mem_of_getElem? (i := 259) (by decide +kernel)⟩
theorem fl_RX6_15 : FL RX6 15 6 1 := ⟨_, rfl, by decide, List.mem_of_getElem? (i := 260) (by decide +kernel)⟩
theorem fl_RX6_18 : FL RX6 18 6 2 := ⟨_, rfl, by decide, List.mem_of_getElem? (i := 261) (by decide +kernel)⟩
theorem fl_RX6_21 : FL RX6 21 6 3 := ⟨_, rfl, by decide, List.mem_of_getElem? (i := 262) (by decide +kernel)⟩
theorem fl_RX7_12 : FL RX7 12 7 0 := ⟨_, rfl, by decide, List.mem_of_getElem? (i := 314) (by decide +kernel)⟩
theorem fl_RX7_16 : FL RX7 16 7 1 := ⟨_, rfl, by decide, List.mem_of_getElem? (i := 315) (by decide +kernel)⟩
theorem fl_RX7_20 : FL RX7 20 7 2 := ⟨_, rfl, by decide, List.mem_of_getElem? (i := 316) (by decide +kernel)⟩
theorem fl_RX7_27 : FL RX7 27 7 3 := ⟨_, rfl, by decide, List.mem_of_getElem? (i := 317) (by decide +kernel)⟩
theorem fl_RX7_34 : FL RX7 34 7 4 := ⟨_, rfl, by decide, List.mem_of_getElem? (i := 318) (by decide +kernel)⟩
theorem fl_RX7_41 : FL RX7 41 7 5 := ⟨_, rfl, by decide, List.mem_of_getElem? (i := 319) (by decide +kernel)⟩
theorem fl_RX7_48 : FL RX7 48 7 6 := ⟨_, rfl, by decide, List.mem_of_getElem? (i := 320) (by decide +kernel)⟩
theorem fl_RX7_52 : FL RX7 52 7 7 := ⟨_, rfl, by decide, List.mem_of_getElem? (i := 321) (by decide +kernel)⟩
theorem fl_RX7_71 : FL RX7 71 3 4 := ⟨_, rfl, by decide, List.mem_of_getElem? (i := 147) (by decide +kernel)⟩
theorem fl_RX7_90 : FL RX7 90 3 2 := ⟨_, rfl, by decide, List.mem_of_getElem? (i := 144) (by decide +kernel)⟩
theorem fl_RX7_102 : FL RX7 102 5 3 := ⟨_, rfl, by decide, List.mem_of_getElem? (i := 100) (by decide +kernel)⟩
theorem fl_RX7_107 : FL RX7 107 3 6 := ⟨_, rfl, by decide, List.mem_of_getElem? (i := 154) (by decide +kernel)⟩
theorem fl_RX7_119 : FL RX7 119 3 7 := ⟨_, rfl, by decide, List.mem_of_getElem? (i := 158) (by decide +kernel)⟩
theorem fl_RX7_157 : FL RX7 157 0 0 := ⟨_, rfl, by decide, List.mem_of_getElem? (i := 127) (by decide +kernel)⟩
theorem fl_RX7_158 : FL RX7 158 0 1 := ⟨_, rfl, by decide, List.mem_of_getElem? (i := 131) (by decide +kernel)⟩
theorem fl_RX7_204 : FL RX7 204 3 8 := ⟨_, rfl, by decide, List.mem_of_getElem? (i := 161) (by decide +kernel)⟩
theorem fl_RX7_207 : FL RX7 207 3 9 := ⟨_, rfl, by decide, List.mem_of_getElem? (i := 163) (by decide +kernel)⟩
theorem fl_RX7_248 : FL RX7 248 3 5 := ⟨_, rfl, by decide, List.mem_of_getElem? (i := 151) (by decide +kernel)⟩
theorem fl_RX7_254 : FL RX7 254 4 1 := ⟨_, rfl, by decide, List.mem_of_getElem? (i := 218) (by decide +kernel)⟩
theorem fl_RX7_267 : FL RX7 267 4 5 := ⟨_, rfl, by decide, List.mem_of_getElem? (i := 226) (by decide +kernel)⟩
theorem fl_RX7_270 : FL RX7 270 4 4 := ⟨_, rfl, by decide, List.mem_of_getElem? (i := 224) (by decide +kernel)⟩
theorem fl_RX7_273 : FL RX7 273 4 6 := ⟨_, rfl, by decide, List.mem_of_getElem? (i := 228) (by decide +kernel)⟩
theorem fl_RX7_276 : FL RX7 276 4 2 := ⟨_, rfl, by decide, List.mem_of_getElem? (i := 220) (by decide +kernel)⟩
theorem fl_RX7_280 : FL RX7 280 4 3 := ⟨_, rfl, by decide, List.mem_of_getElem? (i := 222) (by decide +kernel)⟩
theorem fl_RX7_293 : FL RX7 293 2 2 := ⟨_, rfl, by decide, List.mem_of_getElem? (i := 203) (by decide +kernel)⟩
theorem fl_RX8_7 : FL RX8 7 8 0 := ⟨_, rfl, by decide, List.mem_of_getElem? (i := 833) (by decide +kernel)⟩
theorem fl_RX8_13 : FL RX8 13 8 1 := ⟨_, rfl, by decide, List.mem_of_getElem? (i := 834) (by decide +kernel)⟩
theorem fl_RX8_16 : FL RX8 16 8 3 := ⟨_, rfl, by decide, List.mem_of_getElem? (i := 836) (by decide +kernel)⟩
theorem fl_RX8_19 : FL RX8 19 8 4 := ⟨_, rfl, by decide, List.mem_of_getElem? (i := 837) (by decide +kernel)⟩
theorem fl_RX8_22 : FL RX8 22 8 6 := ⟨_, rfl, by decide, List.mem_of_getElem? (i := 839) (by decide +kernel)⟩
theorem fl_RX8_25 : FL RX8 25 8 13 := ⟨_, rfl, by decide, List.mem_of_getElem? (i := 846) (by decide +kernel)⟩
theorem fl_RX8_28 : FL RX8 28 8 2 := ⟨_, rfl, by decide, List.mem_of_getElem? (i := 835) (by decide +kernel)⟩
theorem fl_RX8_168 : FL RX8 168 8 7 := ⟨_, rfl, by decide, List.mem_of_getElem? (i := 840) (by decide +kernel)⟩
theorem fl_RX8_175 : FL RX8 175 8 8 := ⟨_, rfl, by decide, List.mem_of_getElem? (i := 841) (by decide +kernel)⟩
theorem fl_RX8_178 : FL RX8 178 8 9 := ⟨_, rfl, by decide, List.mem_of_getElem? (i := 842) (by decide +kernel)⟩
theorem fl_RX8_181 : FL RX8 181 8 10 := ⟨_, rfl, by decide, List.mem_of_getElem? (i := 843) (by decide +kernel)⟩
theorem fl_RX8_184 : FL RX8 184 8 11 := ⟨_, rfl, by decide, List.mem_of_getElem? (i := 844) (by decide +kernel)⟩
theorem fl_RX8_191 : FL RX8 191 8 5 := ⟨_, rfl, by decide, List.mem_of_getElem? (i := 838) (by decide +kernel)⟩
theorem fl_RX8_194 : FL RX8 194 8 12 := ⟨_, rfl, by decide, List.mem_of_getElem? (i := 845) (by decide +kernel)⟩
theorem fl_RX8_197 : FL RX8 197 8 14 := ⟨_, rfl, by decide, List.mem_of_getElem? (i := 847) (by decide +kernel)⟩
theorem fl_RX8_209 : FL RX8 209 8 15 := ⟨_, rfl, by decide, List.mem_of_getElem? (i := 848) (by decide +kernel)⟩
theorem fl_RX8_212 : FL RX8 212 8 16 := ⟨_, rfl, by decide, List.mem_of_getElem? (i := 849) (by decide +kernel)⟩
theorem fl_RX8_215 : FL RX8 215 8 17 := ⟨_, rfl, by decide, List.mem_of_getElem? (i := 850) (by decide +kernel)⟩
theorem ms_J6_bitCount_0f7a4 : MSs yJ6_bitCount_0f7a4 cJ6_bitCount_0f7a4 1 (some .int) 1 := ⟨⟨⟨wd_J6_bitCount_0f7a4, wz_RJ6⟩, by decide, by decide, by decide +kernel⟩, wt_J6_bitCount_0f7a4⟩
theorem ms_J9_abs_0f7a4 : MSs yJ9_abs_0f7a4 cJ9_abs_0f7a4 1 (some .int) 1 := ⟨⟨⟨wd_J9_abs_0f7a4, wz_RJ9⟩, by decide, by decide, by decide +kernel⟩, wt_J9_abs_0f7a4⟩
theorem ms_J9_floorDiv_7cf53 : MSs yJ9_floorDiv_7cf53 cJ9_floorDiv_7cf53 3 (some .int) 2 := ⟨⟨⟨wd_J9_floorDiv_7cf53, wz_RJ9⟩, by decide, by decide, by decide +kernel⟩, wt_J9_floorDiv_7cf53⟩
theorem ms_J9_max_7cf53 : MSs yJ9_max_7cf53 cJ9_max_7cf53 2 (some .int) 2 := ⟨⟨⟨wd_J9_max_7cf53, wz_RJ9⟩, by decide, by decide, by decide +kernel⟩, wt_J9_max_7cf53⟩
theorem ms_J9_min_7cf53 : MSs yJ9_min_7cf53 cJ9_min_7cf53 2 (some .int) 2 := ⟨⟨⟨wd_J9_min_7cf53, wz_RJ9⟩, by decide, by decide, by decide +kernel⟩, wt_J9_min_7cf53⟩
theorem mv_X0_become : MSv 0 yX0_become cX0_become 3 none 1 := ⟨_, rfl, rfl, ⟨⟨wd_X0_become, wz_RX0⟩, by decide, by decide, by decide +kernel⟩, wv_X0_become, wx_X0_become⟩
theorem mi_X0_init : MSi 0 yX0_init cX0_init 1 0 := ⟨_, rfl, ⟨⟨wd_X0_init, wz_RX0⟩, by decide, by decide, by decide +kernel⟩, wv_X0_init, rfl⟩
theorem mv_X0_keepRow : MSv 0 yX0_keepRow cX0_keepRow 7 none 3 := ⟨_, rfl, rfl, ⟨⟨wd_X0_keepRow, wz_RX0⟩, by decide, by decide, by decide +kernel⟩, wv_X0_keepRow, wx_X0_keepRow⟩
theorem mv_X0_pixelAt : MSv 0 yX0_pixelAt cX0_pixelAt 3 (some .int) 2 := ⟨_, rfl, rfl, ⟨⟨wd_X0_pixelAt, wz_RX0⟩, by decide, by decide, by decide +kernel⟩, wv_X0_pixelAt, wx_X0_pixelAt⟩
theorem mv_X1_addDemand : MSv 1 yX1_addDemand cX1_addDemand 11 none 4 := ⟨_, rfl, rfl, ⟨⟨wd_X1_addDemand, wz_RX1⟩, by decide, by decide, by decide +kernel⟩, wv_X1_addDemand, wx_X1_addDemand⟩
theorem mv_X1_answer : MSv 1 yX1_answer cX1_answer 2 (some .int) 1 := ⟨_, rfl, rfl, ⟨⟨wd_X1_answer, wz_RX1⟩, by decide, by decide, by decide +kernel⟩, wv_X1_answer, wx_X1_answer⟩
theorem mv_X1_gatherDemands : MSv 1 yX1_gatherDemands cX1_gatherDemands 6 none 2 := ⟨_, rfl, rfl, ⟨⟨wd_X1_gatherDemands, wz_RX1⟩, by decide, by decide, by decide +kernel⟩, wv_X1_gatherDemands, wx_X1_gatherDemands⟩
theorem mi_X1_init : MSi 1 yX1_init cX1_init 1 0 := ⟨_, rfl, ⟨⟨wd_X1_init, wz_RX1⟩, by decide, by decide, by decide +kernel⟩, wv_X1_init, rfl⟩
theorem mv_X1_isVain : MSv 1 yX1_isVain cX1_isVain 1 (some .boolean) 0 := ⟨_, rfl, rfl, ⟨⟨wd_X1_isVain, wz_RX1⟩, by decide, by decide, by decide +kernel⟩, wv_X1_isVain, wx_X1_isVain⟩
theorem mv_X1_keepMotion : MSv 1 yX1_keepMotion cX1_keepMotion 3 none 2 := ⟨_, rfl, rfl, ⟨⟨wd_X1_keepMotion, wz_RX1⟩, by decide, by decide, by decide +kernel⟩, wv_X1_keepMotion, wx_X1_keepMotion⟩
theorem mv_X1_meetsDemands : MSv 1 yX1_meetsDemands cX1_meetsDemands 6 (some .boolean) 3 := ⟨_, rfl, rfl, ⟨⟨wd_X1_meetsDemands, wz_RX1⟩, by decide, by decide, by decide +kernel⟩, wv_X1_meetsDemands, wx_X1_meetsDemands⟩
theorem mv_X1_run : MSv 1 yX1_run cX1_run 6 none 2 := ⟨_, rfl, rfl, ⟨⟨wd_X1_run, wz_RX1⟩, by decide, by decide, by decide +kernel⟩, wv_X1_run, wx_X1_run⟩
theorem mi_X2_init : MSi 2 yX2_init cX2_init 1 0 := ⟨_, rfl, ⟨⟨wd_X2_init, wz_RX2⟩, by decide, by decide, by decide +kernel⟩, wv_X2_init, rfl⟩
theorem ms_X2_isDigit : MSs yX2_isDigit cX2_isDigit 1 (some .boolean) 1 := ⟨⟨⟨wd_X2_isDigit, wz_RX2⟩, by decide, by decide, by decide +kernel⟩, wt_X2_isDigit⟩
theorem mv_X2_numberAt : MSv 2 yX2_numberAt cX2_numberAt 2 (some .int) 1 := ⟨_, rfl, rfl, ⟨⟨wd_X2_numberAt, wz_RX2⟩, by decide, by decide, by decide +kernel⟩, wv_X2_numberAt, wx_X2_numberAt⟩
theorem ms_X2_numbersBehind : MSs yX2_numbersBehind cX2_numbersBehind 1 (some .int) 1 := ⟨⟨⟨wd_X2_numbersBehind, wz_RX2⟩, by decide, by decide, by decide +kernel⟩, wt_X2_numbersBehind⟩
theorem mv_X2_perform : MSv 2 yX2_perform cX2_perform 3 none 2 := ⟨_, rfl, rfl, ⟨⟨wd_X2_perform, wz_RX2⟩, by decide, by decide, by decide +kernel⟩, wv_X2_perform, wx_X2_perform⟩
theorem mv_X2_read : MSv 2 yX2_read cX2_read 5 none 2 := ⟨_, rfl, rfl, ⟨⟨wd_X2_read, wz_RX2⟩, by decide, by decide, by decide +kernel⟩, wv_X2_read, wx_X2_read⟩
theorem mv_X2_readNumber : MSv 2 yX2_readNumber cX2_readNumber 6 none 2 := ⟨_, rfl, rfl, ⟨⟨wd_X2_readNumber, wz_RX2⟩, by decide, by decide, by decide +kernel⟩, wv_X2_readNumber, wx_X2_readNumber⟩
theorem mv_X2_readSign : MSv 2 yX2_readSign cX2_readSign 3 none 2 := ⟨_, rfl, rfl, ⟨⟨wd_X2_readSign, wz_RX2⟩, by decide, by decide, by decide +kernel⟩, wv_X2_readSign, wx_X2_readSign⟩
theorem mv_X2_wrongNumber : MSv 2 yX2_wrongNumber cX2_wrongNumber 1 (some .int) 0 := ⟨_, rfl, rfl, ⟨⟨wd_X2_wrongNumber, wz_RX2⟩, by decide, by decide, by decide +kernel⟩, wv_X2_wrongNumber, wx_X2_wrongNumber⟩
theorem mv_X3_addThing : MSv 3 yX3_addThing cX3_addThing 8 none 6 := ⟨_, rfl, rfl, ⟨⟨wd_X3_addThing, wz_RX3⟩, by decide, by decide, by decide +kernel⟩, wv_X3_addThing, wx_X3_addThing⟩
theorem mv_X3_become : MSv 3 yX3_become cX3_become 3 none 1 := ⟨_, rfl, rfl, ⟨⟨wd_X3_become, wz_RX3⟩, by decide, by decide, by decide +kernel⟩, wv_X3_become, wx_X3_become⟩
theorem mv_X3_becomeInFrames : MSv 3 yX3_becomeInFrames cX3_becomeInFrames 5 none 1 := ⟨_, rfl, rfl, ⟨⟨wd_X3_becomeInFrames, wz_RX3⟩, by decide, by decide, by decide +kernel⟩, wv_X3_becomeInFrames, wx_X3_becomeInFrames⟩
theorem mv_X3_becomeInThings : MSv 3 yX3_becomeInThings cX3_becomeInThings 5 none 1 := ⟨_, rfl, rfl, ⟨⟨wd_X3_becomeInThings, wz_RX3⟩, by decide, by decide, by decide +kernel⟩, wv_X3_becomeInThings, wx_X3_becomeInThings⟩
theorem mv_X3_changeSetting : MSv 3 yX3_changeSetting cX3_changeSetting 3 none 2 := ⟨_, rfl, rfl, ⟨⟨wd_X3_changeSetting, wz_RX3⟩, by decide, by decide, by decide +kernel⟩, wv_X3_changeSetting, wx_X3_changeSetting⟩
theorem mv_X3_dropFrame : MSv 3 yX3_dropFrame cX3_dropFrame 4 none 1 := ⟨_, rfl, rfl, ⟨⟨wd_X3_dropFrame, wz_RX3⟩, by decide, by decide, by decide +kernel⟩, wv_X3_dropFrame, wx_X3_dropFrame⟩
theorem mv_X3_edgesIn : MSv 3 yX3_edgesIn cX3_edgesIn 7 (some .int) 2 := ⟨_, rfl, rfl, ⟨⟨wd_X3_edgesIn, wz_RX3⟩, by decide, by decide, by decide +kernel⟩, wv_X3_edgesIn, wx_X3_edgesIn⟩
theorem mv_X3_frameAt : MSv 3 yX3_frameAt cX3_frameAt 2 (some (.object "RowVotes$Frame")) 1 := ⟨_, rfl, rfl, ⟨⟨wd_X3_frameAt, wz_RX3⟩, by decide, by decide, by decide +kernel⟩, wv_X3_frameAt, wx_X3_frameAt⟩
theorem mi_X3_init : MSi 3 yX3_init cX3_init 2 0 := ⟨_, rfl, ⟨⟨wd_X3_init, wz_RX3⟩, by decide, by decide, by decide +kernel⟩, wv_X3_init, rfl⟩
theorem mv_X3_judgeRows : MSv 3 yX3_judgeRows cX3_judgeRows 4 none 2 := ⟨_, rfl, rfl, ⟨⟨wd_X3_judgeRows, wz_RX3⟩, by decide, by decide, by decide +kernel⟩, wv_X3_judgeRows, wx_X3_judgeRows⟩
theorem mv_X3_paint : MSv 3 yX3_paint cX3_paint 10 none 5 := ⟨_, rfl, rfl, ⟨⟨wd_X3_paint, wz_RX3⟩, by decide, by decide, by decide +kernel⟩, wv_X3_paint, wx_X3_paint⟩
theorem mv_X3_paintOver : MSv 3 yX3_paintOver cX3_paintOver 5 none 3 := ⟨_, rfl, rfl, ⟨⟨wd_X3_paintOver, wz_RX3⟩, by decide, by decide, by decide +kernel⟩, wv_X3_paintOver, wx_X3_paintOver⟩
theorem mv_X3_percentAt : MSv 3 yX3_percentAt cX3_percentAt 2 (some .int) 1 := ⟨_, rfl, rfl, ⟨⟨wd_X3_percentAt, wz_RX3⟩, by decide, by decide, by decide +kernel⟩, wv_X3_percentAt, wx_X3_percentAt⟩
theorem mv_X3_photograph : MSv 3 yX3_photograph cX3_photograph 7 none 3 := ⟨_, rfl, rfl, ⟨⟨wd_X3_photograph, wz_RX3⟩, by decide, by decide, by decide +kernel⟩, wv_X3_photograph, wx_X3_photograph⟩
theorem mv_X3_setting : MSv 3 yX3_setting cX3_setting 2 (some .int) 1 := ⟨_, rfl, rfl, ⟨⟨wd_X3_setting, wz_RX3⟩, by decide, by decide, by decide +kernel⟩, wv_X3_setting, wx_X3_setting⟩
theorem mv_X3_takeFrame : MSv 3 yX3_takeFrame cX3_takeFrame 3 none 1 := ⟨_, rfl, rfl, ⟨⟨wd_X3_takeFrame, wz_RX3⟩, by decide, by decide, by decide +kernel⟩, wv_X3_takeFrame, wx_X3_takeFrame⟩
theorem mv_X3_thingAt : MSv 3 yX3_thingAt cX3_thingAt 2 (some (.object "RowVotes$Thing")) 1 := ⟨_, rfl, rfl, ⟨⟨wd_X3_thingAt, wz_RX3⟩, by decide, by decide, by decide +kernel⟩, wv_X3_thingAt, wx_X3_thingAt⟩
theorem mv_X3_timeOfRow : MSv 3 yX3_timeOfRow cX3_timeOfRow 3 (some .int) 2 := ⟨_, rfl, rfl, ⟨⟨wd_X3_timeOfRow, wz_RX3⟩, by decide, by decide, by decide +kernel⟩, wv_X3_timeOfRow, wx_X3_timeOfRow⟩
theorem mv_X3_weightOf : MSv 3 yX3_weightOf cX3_weightOf 2 (some .int) 1 := ⟨_, rfl, rfl, ⟨⟨wd_X3_weightOf, wz_RX3⟩, by decide, by decide, by decide +kernel⟩, wv_X3_weightOf, wx_X3_weightOf⟩
theorem mv_X4_append : MSv 4 yX4_append cX4_append 2 (some .boolean) 1 := ⟨_, rfl, rfl, ⟨⟨wd_X4_append, wz_RX4⟩, by decide, by decide, by decide +kernel⟩, wv_X4_append, wx_X4_append⟩
theorem mv_X4_examine : MSv 4 yX4_examine cX4_examine 3 none 1 := ⟨_, rfl, rfl, ⟨⟨wd_X4_examine, wz_RX4⟩, by decide, by decide, by decide +kernel⟩, wv_X4_examine, wx_X4_examine⟩
theorem mv_X4_examineOrder : MSv 4 yX4_examineOrder cX4_examineOrder 1 none 0 := ⟨_, rfl, rfl, ⟨⟨wd_X4_examineOrder, wz_RX4⟩, by decide, by decide, by decide +kernel⟩, wv_X4_examineOrder, wx_X4_examineOrder⟩
theorem mi_X4_init : MSi 4 yX4_init cX4_init 1 0 := ⟨_, rfl, ⟨⟨wd_X4_init, wz_RX4⟩, by decide, by decide, by decide +kernel⟩, wv_X4_init, rfl⟩
theorem mv_X4_isPossibleThen : MSv 4 yX4_isPossibleThen cX4_isPossibleThen 3 (some .boolean) 0 := ⟨_, rfl, rfl, ⟨⟨wd_X4_isPossibleThen, wz_RX4⟩, by decide, by decide, by decide +kernel⟩, wv_X4_isPossibleThen, wx_X4_isPossibleThen⟩
theorem mv_X4_signAt : MSv 4 yX4_signAt cX4_signAt 2 (some .char) 1 := ⟨_, rfl, rfl, ⟨⟨wd_X4_signAt, wz_RX4⟩, by decide, by decide, by decide +kernel⟩, wv_X4_signAt, wx_X4_signAt⟩
theorem mv_X5_become : MSv 5 yX5_become cX5_become 2 none 1 := ⟨_, rfl, rfl, ⟨⟨wd_X5_become, wz_RX5⟩, by decide, by decide, by decide +kernel⟩, wv_X5_become, wx_X5_become⟩
theorem mv_X5_changeSpeed : MSv 5 yX5_changeSpeed cX5_changeSpeed 3 none 2 := ⟨_, rfl, rfl, ⟨⟨wd_X5_changeSpeed, wz_RX5⟩, by decide, by decide, by decide +kernel⟩, wv_X5_changeSpeed, wx_X5_changeSpeed⟩
theorem mi_X5_init : MSi 5 yX5_init cX5_init 1 0 := ⟨_, rfl, ⟨⟨wd_X5_init, wz_RX5⟩, by decide, by decide, by decide +kernel⟩, wv_X5_init, rfl⟩
theorem mv_X5_isIn : MSv 5 yX5_isIn cX5_isIn 2 (some .boolean) 1 := ⟨_, rfl, rfl, ⟨⟨wd_X5_isIn, wz_RX5⟩, by decide, by decide, by decide +kernel⟩, wv_X5_isIn, wx_X5_isIn⟩
theorem mv_X5_numberOf : MSv 5 yX5_numberOf cX5_numberOf 2 (some .int) 1 := ⟨_, rfl, rfl, ⟨⟨wd_X5_numberOf, wz_RX5⟩, by decide, by decide, by decide +kernel⟩, wv_X5_numberOf, wx_X5_numberOf⟩
theorem mv_X5_positionAt : MSv 5 yX5_positionAt cX5_positionAt 2 (some .int) 1 := ⟨_, rfl, rfl, ⟨⟨wd_X5_positionAt, wz_RX5⟩, by decide, by decide, by decide +kernel⟩, wv_X5_positionAt, wx_X5_positionAt⟩
theorem mv_X6_countVotes : MSv 6 yX6_countVotes cX6_countVotes 4 none 1 := ⟨_, rfl, rfl, ⟨⟨wd_X6_countVotes, wz_RX6⟩, by decide, by decide, by decide +kernel⟩, wv_X6_countVotes, wx_X6_countVotes⟩
theorem mi_X6_init : MSi 6 yX6_init cX6_init 1 0 := ⟨_, rfl, ⟨⟨wd_X6_init, wz_RX6⟩, by decide, by decide, by decide +kernel⟩, wv_X6_init, rfl⟩
theorem mv_X6_mostVotes : MSv 6 yX6_mostVotes cX6_mostVotes 3 (some .int) 0 := ⟨_, rfl, rfl, ⟨⟨wd_X6_mostVotes, wz_RX6⟩, by decide, by decide, by decide +kernel⟩, wv_X6_mostVotes, wx_X6_mostVotes⟩
theorem mv_X6_readEdges : MSv 6 yX6_readEdges cX6_readEdges 6 none 3 := ⟨_, rfl, rfl, ⟨⟨wd_X6_readEdges, wz_RX6⟩, by decide, by decide, by decide +kernel⟩, wv_X6_readEdges, wx_X6_readEdges⟩
theorem mv_X6_readFirst : MSv 6 yX6_readFirst cX6_readFirst 3 none 2 := ⟨_, rfl, rfl, ⟨⟨wd_X6_readFirst, wz_RX6⟩, by decide, by decide, by decide +kernel⟩, wv_X6_readFirst, wx_X6_readFirst⟩
theorem mv_X6_readSecond : MSv 6 yX6_readSecond cX6_readSecond 3 none 2 := ⟨_, rfl, rfl, ⟨⟨wd_X6_readSecond, wz_RX6⟩, by decide, by decide, by decide +kernel⟩, wv_X6_readSecond, wx_X6_readSecond⟩
theorem mv_X6_told : MSv 6 yX6_told cX6_told 5 (some .int) 0 := ⟨_, rfl, rfl, ⟨⟨wd_X6_told, wz_RX6⟩, by decide, by decide, by decide +kernel⟩, wv_X6_told, wx_X6_told⟩
theorem mv_X6_voteOf : MSv 6 yX6_voteOf cX6_voteOf 2 (some .int) 1 := ⟨_, rfl, rfl, ⟨⟨wd_X6_voteOf, wz_RX6⟩, by decide, by decide, by decide +kernel⟩, wv_X6_voteOf, wx_X6_voteOf⟩
theorem mv_X6_voteOnShift : MSv 6 yX6_voteOnShift cX6_voteOnShift 2 none 0 := ⟨_, rfl, rfl, ⟨⟨wd_X6_voteOnShift, wz_RX6⟩, by decide, by decide, by decide +kernel⟩, wv_X6_voteOnShift, wx_X6_voteOnShift⟩
theorem mv_X6_voteOnSlant : MSv 6 yX6_voteOnSlant cX6_voteOnSlant 4 none 2 := ⟨_, rfl, rfl, ⟨⟨wd_X6_voteOnSlant, wz_RX6⟩, by decide, by decide, by decide +kernel⟩, wv_X6_voteOnSlant, wx_X6_voteOnSlant⟩
theorem mv_X6_votersAtAll : MSv 6 yX6_votersAtAll cX6_votersAtAll 1 (some .int) 0 := ⟨_, rfl, rfl, ⟨⟨wd_X6_votersAtAll, wz_RX6⟩, by decide, by decide, by decide +kernel⟩, wv_X6_votersAtAll, wx_X6_votersAtAll⟩
theorem mv_X6_votersFor : MSv 6 yX6_votersFor cX6_votersFor 4 (some .int) 1 := ⟨_, rfl, rfl, ⟨⟨wd_X6_votersFor, wz_RX6⟩, by decide, by decide, by decide +kernel⟩, wv_X6_votersFor, wx_X6_votersFor⟩
theorem mv_X6_weigh : MSv 6 yX6_weigh cX6_weigh 2 none 1 := ⟨_, rfl, rfl, ⟨⟨wd_X6_weigh, wz_RX6⟩, by decide, by decide, by decide +kernel⟩, wv_X6_weigh, wx_X6_weigh⟩
theorem ms_X7_bestShift : MSs yX7_bestShift cX7_bestShift 7 (some .int) 2 := ⟨⟨⟨wd_X7_bestShift, wz_RX7⟩, by decide, by decide, by decide +kernel⟩, wt_X7_bestShift⟩
theorem ms_X7_columnsCovered : MSs yX7_columnsCovered cX7_columnsCovered 4 (some .int) 2 := ⟨⟨⟨wd_X7_columnsCovered, wz_RX7⟩, by decide, by decide, by decide +kernel⟩, wt_X7_columnsCovered⟩
theorem mv_X7_darkPeriods : MSv 7 yX7_darkPeriods cX7_darkPeriods 4 (some .int) 1 := ⟨_, rfl, rfl, ⟨⟨wd_X7_darkPeriods, wz_RX7⟩, by decide, by decide, by decide +kernel⟩, wv_X7_darkPeriods, wx_X7_darkPeriods⟩
theorem ms_X7_dimmed : MSs yX7_dimmed cX7_dimmed 2 (some .int) 2 := ⟨⟨⟨wd_X7_dimmed, wz_RX7⟩, by decide, by decide, by decide +kernel⟩, wt_X7_dimmed⟩
theorem mv_X7_dropOldestState : MSv 7 yX7_dropOldestState cX7_dropOldestState 3 none 0 := ⟨_, rfl, rfl, ⟨⟨wd_X7_dropOldestState, wz_RX7⟩, by decide, by decide, by decide +kernel⟩, wv_X7_dropOldestState, wx_X7_dropOldestState⟩
theorem mv_X7_edgeCountOf : MSv 7 yX7_edgeCountOf cX7_edgeCountOf 4 (some .int) 1 := ⟨_, rfl, rfl, ⟨⟨wd_X7_edgeCountOf, wz_RX7⟩, by decide, by decide, by decide +kernel⟩, wv_X7_edgeCountOf, wx_X7_edgeCountOf⟩
theorem ms_X7_holds : MSs yX7_holds cX7_holds 2 (some .boolean) 2 := ⟨⟨⟨wd_X7_holds, wz_RX7⟩, by decide, by decide, by decide +kernel⟩, wt_X7_holds⟩
theorem ms_X7_isDark : MSs yX7_isDark cX7_isDark 3 (some .boolean) 3 := ⟨⟨⟨wd_X7_isDark, wz_RX7⟩, by decide, by decide, by decide +kernel⟩, wt_X7_isDark⟩
theorem mv_X7_isPair : MSv 7 yX7_isPair cX7_isPair 3 (some .boolean) 2 := ⟨_, rfl, rfl, ⟨⟨wd_X7_isPair, wz_RX7⟩, by decide, by decide, by decide +kernel⟩, wv_X7_isPair, wx_X7_isPair⟩
theorem mv_X7_isPlace : MSv 7 yX7_isPlace cX7_isPlace 3 (some .boolean) 2 := ⟨_, rfl, rfl, ⟨⟨wd_X7_isPlace, wz_RX7⟩, by decide, by decide, by decide +kernel⟩, wv_X7_isPlace, wx_X7_isPlace⟩
theorem ms_X7_isWithin : MSs yX7_isWithin cX7_isWithin 3 (some .boolean) 3 := ⟨⟨⟨wd_X7_isWithin, wz_RX7⟩, by decide, by decide, by decide +kernel⟩, wt_X7_isWithin⟩
theorem ms_X7_numberIn : MSs yX7_numberIn cX7_numberIn 2 (some .int) 2 := ⟨⟨⟨wd_X7_numberIn, wz_RX7⟩, by decide, by decide, by decide +kernel⟩, wt_X7_numberIn⟩
theorem mv_X7_periodsFitting : MSv 7 yX7_periodsFitting cX7_periodsFitting 7 (some .int) 1 := ⟨_, rfl, rfl, ⟨⟨wd_X7_periodsFitting, wz_RX7⟩, by decide, by decide, by decide +kernel⟩, wv_X7_periodsFitting, wx_X7_periodsFitting⟩
theorem mv_X7_recordState : MSv 7 yX7_recordState cX7_recordState 1 none 0 := ⟨_, rfl, rfl, ⟨⟨wd_X7_recordState, wz_RX7⟩, by decide, by decide, by decide +kernel⟩, wv_X7_recordState, wx_X7_recordState⟩
theorem mv_X7_rowFits : MSv 7 yX7_rowFits cX7_rowFits 5 (some .boolean) 3 := ⟨_, rfl, rfl, ⟨⟨wd_X7_rowFits, wz_RX7⟩, by decide, by decide, by decide +kernel⟩, wv_X7_rowFits, wx_X7_rowFits⟩
theorem mv_X7_voteOn : MSv 7 yX7_voteOn cX7_voteOn 3 none 2 := ⟨_, rfl, rfl, ⟨⟨wd_X7_voteOn, wz_RX7⟩, by decide, by decide, by decide +kernel⟩, wv_X7_voteOn, wx_X7_voteOn⟩
theorem ms_X7_wrongOfThing : MSs yX7_wrongOfThing cX7_wrongOfThing 6 (some .int) 6 := ⟨⟨⟨wd_X7_wrongOfThing, wz_RX7⟩, by decide, by decide, by decide +kernel⟩, wt_X7_wrongOfThing⟩
theorem ms_X8_adds : MSs yX8_adds cX8_adds 8 none 7 := ⟨⟨⟨wd_X8_adds, wz_RX8⟩, by decide, by decide, by decide +kernel⟩, wt_X8_adds⟩
theorem ms_X8_agreeing : MSs yX8_agreeing cX8_agreeing 5 (some .int) 3 := ⟨⟨⟨wd_X8_agreeing, wz_RX8⟩, by decide, by decide, by decide +kernel⟩, wt_X8_agreeing⟩
theorem mv_X8_allFit : MSv 8 yX8_allFit cX8_allFit 4 (some .boolean) 1 := ⟨_, rfl, rfl, ⟨⟨wd_X8_allFit, wz_RX8⟩, by decide, by decide, by decide +kernel⟩, wv_X8_allFit, wx_X8_allFit⟩
theorem mv_X8_areFrames : MSv 8 yX8_areFrames cX8_areFrames 3 (some .boolean) 2 := ⟨_, rfl, rfl, ⟨⟨wd_X8_areFrames, wz_RX8⟩, by decide, by decide, by decide +kernel⟩, wv_X8_areFrames, wx_X8_areFrames⟩
theorem ms_X8_bits : MSs yX8_bits cX8_bits 3 (some .int) 1 := ⟨⟨⟨wd_X8_bits, wz_RX8⟩, by decide, by decide, by decide +kernel⟩, wt_X8_bits⟩
theorem ms_X8_can : MSs yX8_can cX8_can 3 (some .boolean) 3 := ⟨⟨⟨wd_X8_can, wz_RX8⟩, by decide, by decide, by decide +kernel⟩, wt_X8_can⟩
theorem ms_X8_copies : MSs yX8_copies cX8_copies 5 none 4 := ⟨⟨⟨wd_X8_copies, wz_RX8⟩, by decide, by decide, by decide +kernel⟩, wt_X8_copies⟩
theorem mv_X8_counts : MSv 8 yX8_counts cX8_counts 3 none 2 := ⟨_, rfl, rfl, ⟨⟨wd_X8_counts, wz_RX8⟩, by decide, by decide, by decide +kernel⟩, wv_X8_counts, wx_X8_counts⟩
theorem ms_X8_covers : MSs yX8_covers cX8_covers 8 (some .boolean) 5 := ⟨⟨⟨wd_X8_covers, wz_RX8⟩, by decide, by decide, by decide +kernel⟩, wt_X8_covers⟩
theorem mv_X8_does : MSv 8 yX8_does cX8_does 3 none 2 := ⟨_, rfl, rfl, ⟨⟨wd_X8_does, wz_RX8⟩, by decide, by decide, by decide +kernel⟩, wv_X8_does, wx_X8_does⟩
theorem mv_X8_done : MSv 8 yX8_done cX8_done 5 (some .int) 0 := ⟨_, rfl, rfl, ⟨⟨wd_X8_done, wz_RX8⟩, by decide, by decide, by decide +kernel⟩, wv_X8_done, wx_X8_done⟩
theorem ms_X8_drops : MSs yX8_drops cX8_drops 3 none 2 := ⟨⟨⟨wd_X8_drops, wz_RX8⟩, by decide, by decide, by decide +kernel⟩, wt_X8_drops⟩
theorem mv_X8_edgesAt : MSv 8 yX8_edgesAt cX8_edgesAt 6 (some .int) 2 := ⟨_, rfl, rfl, ⟨⟨wd_X8_edgesAt, wz_RX8⟩, by decide, by decide, by decide +kernel⟩, wv_X8_edgesAt, wx_X8_edgesAt⟩
theorem mv_X8_edgesIn : MSv 8 yX8_edgesIn cX8_edgesIn 5 (some .int) 2 := ⟨_, rfl, rfl, ⟨⟨wd_X8_edgesIn, wz_RX8⟩, by decide, by decide, by decide +kernel⟩, wv_X8_edgesIn, wx_X8_edgesIn⟩
theorem mv_X8_faults : MSv 8 yX8_faults cX8_faults 4 none 3 := ⟨_, rfl, rfl, ⟨⟨wd_X8_faults, wz_RX8⟩, by decide, by decide, by decide +kernel⟩, wv_X8_faults, wx_X8_faults⟩
theorem mv_X8_form : MSv 8 yX8_form cX8_form 3 (some .int) 0 := ⟨_, rfl, rfl, ⟨⟨wd_X8_form, wz_RX8⟩, by decide, by decide, by decide +kernel⟩, wv_X8_form, wx_X8_form⟩
theorem mv_X8_frameValue : MSv 8 yX8_frameValue cX8_frameValue 3 (some .int) 2 := ⟨_, rfl, rfl, ⟨⟨wd_X8_frameValue, wz_RX8⟩, by decide, by decide, by decide +kernel⟩, wv_X8_frameValue, wx_X8_frameValue⟩
theorem ms_X8_has : MSs yX8_has cX8_has 2 (some .boolean) 2 := ⟨⟨⟨wd_X8_has, wz_RX8⟩, by decide, by decide, by decide +kernel⟩, wt_X8_has⟩
theorem ms_X8_in : MSs yX8_in cX8_in 3 (some .boolean) 3 := ⟨⟨⟨wd_X8_in, wz_RX8⟩, by decide, by decide, by decide +kernel⟩, wt_X8_in⟩
theorem mv_X8_isColumn : MSv 8 yX8_isColumn cX8_isColumn 2 (some .boolean) 1 := ⟨_, rfl, rfl, ⟨⟨wd_X8_isColumn, wz_RX8⟩, by decide, by decide, by decide +kernel⟩, wv_X8_isColumn, wx_X8_isColumn⟩
theorem ms_X8_isDark : MSs yX8_isDark cX8_isDark 2 (some .boolean) 2 := ⟨⟨⟨wd_X8_isDark, wz_RX8⟩, by decide, by decide, by decide +kernel⟩, wt_X8_isDark⟩
theorem mv_X8_isEdge : MSv 8 yX8_isEdge cX8_isEdge 5 (some .boolean) 3 := ⟨_, rfl, rfl, ⟨⟨wd_X8_isEdge, wz_RX8⟩, by decide, by decide, by decide +kernel⟩, wv_X8_isEdge, wx_X8_isEdge⟩
theorem mv_X8_isFrame : MSv 8 yX8_isFrame cX8_isFrame 2 (some .boolean) 1 := ⟨_, rfl, rfl, ⟨⟨wd_X8_isFrame, wz_RX8⟩, by decide, by decide, by decide +kernel⟩, wv_X8_isFrame, wx_X8_isFrame⟩
theorem mv_X8_isRow : MSv 8 yX8_isRow cX8_isRow 2 (some .boolean) 1 := ⟨_, rfl, rfl, ⟨⟨wd_X8_isRow, wz_RX8⟩, by decide, by decide, by decide +kernel⟩, wv_X8_isRow, wx_X8_isRow⟩
theorem mv_X8_isSeen : MSv 8 yX8_isSeen cX8_isSeen 3 (some .boolean) 2 := ⟨_, rfl, rfl, ⟨⟨wd_X8_isSeen, wz_RX8⟩, by decide, by decide, by decide +kernel⟩, wv_X8_isSeen, wx_X8_isSeen⟩
theorem ms_X8_isSetting : MSs yX8_isSetting cX8_isSetting 2 (some .boolean) 2 := ⟨⟨⟨wd_X8_isSetting, wz_RX8⟩, by decide, by decide, by decide +kernel⟩, wt_X8_isSetting⟩
theorem mv_X8_isThing : MSv 8 yX8_isThing cX8_isThing 2 (some .boolean) 1 := ⟨_, rfl, rfl, ⟨⟨wd_X8_isThing, wz_RX8⟩, by decide, by decide, by decide +kernel⟩, wv_X8_isThing, wx_X8_isThing⟩
theorem mv_X8_look : MSv 8 yX8_look cX8_look 1 (some .int) 0 := ⟨_, rfl, rfl, ⟨⟨wd_X8_look, wz_RX8⟩, by decide, by decide, by decide +kernel⟩, wv_X8_look, wx_X8_look⟩
theorem mv_X8_mostVoted : MSv 8 yX8_mostVoted cX8_mostVoted 4 (some .int) 0 := ⟨_, rfl, rfl, ⟨⟨wd_X8_mostVoted, wz_RX8⟩, by decide, by decide, by decide +kernel⟩, wv_X8_mostVoted, wx_X8_mostVoted⟩
theorem mv_X8_noVotes : MSv 8 yX8_noVotes cX8_noVotes 2 none 0 := ⟨_, rfl, rfl, ⟨⟨wd_X8_noVotes, wz_RX8⟩, by decide, by decide, by decide +kernel⟩, wv_X8_noVotes, wx_X8_noVotes⟩
theorem mv_X8_notes : MSv 8 yX8_notes cX8_notes 2 none 0 := ⟨_, rfl, rfl, ⟨⟨wd_X8_notes, wz_RX8⟩, by decide, by decide, by decide +kernel⟩, wv_X8_notes, wx_X8_notes⟩
theorem mv_X8_number : MSv 8 yX8_number cX8_number 5 none 1 := ⟨_, rfl, rfl, ⟨⟨wd_X8_number, wz_RX8⟩, by decide, by decide, by decide +kernel⟩, wv_X8_number, wx_X8_number⟩
theorem mv_X8_pixelOf : MSv 8 yX8_pixelOf cX8_pixelOf 4 (some .int) 3 := ⟨_, rfl, rfl, ⟨⟨wd_X8_pixelOf, wz_RX8⟩, by decide, by decide, by decide +kernel⟩, wv_X8_pixelOf, wx_X8_pixelOf⟩
theorem ms_X8_placeAt : MSs yX8_placeAt cX8_placeAt 4 (some .int) 3 := ⟨⟨⟨wd_X8_placeAt, wz_RX8⟩, by decide, by decide, by decide +kernel⟩, wt_X8_placeAt⟩
theorem mv_X8_rowFits : MSv 8 yX8_rowFits cX8_rowFits 6 (some .boolean) 3 := ⟨_, rfl, rfl, ⟨⟨wd_X8_rowFits, wz_RX8⟩, by decide, by decide, by decide +kernel⟩, wv_X8_rowFits, wx_X8_rowFits⟩
theorem ms_X8_shown : MSs yX8_shown cX8_shown 6 (some .int) 4 := ⟨⟨⟨wd_X8_shown, wz_RX8⟩, by decide, by decide, by decide +kernel⟩, wt_X8_shown⟩
theorem mv_X8_sign : MSv 8 yX8_sign cX8_sign 2 none 1 := ⟨_, rfl, rfl, ⟨⟨wd_X8_sign, wz_RX8⟩, by decide, by decide, by decide +kernel⟩, wv_X8_sign, wx_X8_sign⟩
theorem ms_X8_size : MSs yX8_size cX8_size 1 (some .int) 1 := ⟨⟨⟨wd_X8_size, wz_RX8⟩, by decide, by decide, by decide +kernel⟩, wt_X8_size⟩
theorem mv_X8_slantOf : MSv 8 yX8_slantOf cX8_slantOf 3 (some .int) 1 := ⟨_, rfl, rfl, ⟨⟨wd_X8_slantOf, wz_RX8⟩, by decide, by decide, by decide +kernel⟩, wv_X8_slantOf, wx_X8_slantOf⟩
theorem ms_X8_takes : MSs yX8_takes cX8_takes 4 none 1 := ⟨⟨⟨wd_X8_takes, wz_RX8⟩, by decide, by decide, by decide +kernel⟩, wt_X8_takes⟩
theorem mv_X8_toldBy : MSv 8 yX8_toldBy cX8_toldBy 5 (some .int) 3 := ⟨_, rfl, rfl, ⟨⟨wd_X8_toldBy, wz_RX8⟩, by decide, by decide, by decide +kernel⟩, wv_X8_toldBy, wx_X8_toldBy⟩
theorem mv_X8_tries : MSv 8 yX8_tries cX8_tries 5 none 1 := ⟨_, rfl, rfl, ⟨⟨wd_X8_tries, wz_RX8⟩, by decide, by decide, by decide +kernel⟩, wv_X8_tries, wx_X8_tries⟩
theorem ms_X8_voteBy : MSs yX8_voteBy cX8_voteBy 6 (some .int) 2 := ⟨⟨⟨wd_X8_voteBy, wz_RX8⟩, by decide, by decide, by decide +kernel⟩, wt_X8_voteBy⟩
theorem mv_X8_voteOf : MSv 8 yX8_voteOf cX8_voteOf 4 (some .int) 3 := ⟨_, rfl, rfl, ⟨⟨wd_X8_voteOf, wz_RX8⟩, by decide, by decide, by decide +kernel⟩, wv_X8_voteOf, wx_X8_voteOf⟩
theorem mv_X8_votersOf : MSv 8 yX8_votersOf cX8_votersOf 8 (some .int) 4 := ⟨_, rfl, rfl, ⟨⟨wd_X8_votersOf, wz_RX8⟩, by decide, by decide, by decide +kernel⟩, wv_X8_votersOf, wx_X8_votersOf⟩
theorem mv_X8_weightOf : MSv 8 yX8_weightOf cX8_weightOf 3 (some .int) 1 := ⟨_, rfl, rfl, ⟨⟨wd_X8_weightOf, wz_RX8⟩, by decide, by decide, by decide +kernel⟩, wv_X8_weightOf, wx_X8_weightOf⟩
theorem mv_X8_wrongIn : MSv 8 yX8_wrongIn cX8_wrongIn 2 (some .int) 1 := ⟨_, rfl, rfl, ⟨⟨wd_X8_wrongIn, wz_RX8⟩, by decide, by decide, by decide +kernel⟩, wv_X8_wrongIn, wx_X8_wrongIn⟩
theorem ms_X8_wrongNumber : MSs yX8_wrongNumber cX8_wrongNumber 6 (some .int) 6 := ⟨⟨⟨wd_X8_wrongNumber, wz_RX8⟩, by decide, by decide, by decide +kernel⟩, wt_X8_wrongNumber⟩
