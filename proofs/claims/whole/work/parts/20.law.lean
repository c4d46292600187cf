theorem kb_31 : (Int8.ofInt (31)).toInt32 = (31 : Int32) := by decide
theorem ki_7 : Int32.ofInt (7) = (7 : Int32) := by decide
theorem wd_X7_bestWait : Cond.code yX7_bestWait cX7_bestWait 7 (some .int) ∈ lw_tbl := List.mem_of_getElem? (i := 675) (by decide +kernel)
theorem wd_X7_blind : Cond.code yX7_blind cX7_blind 3 (some .int) ∈ lw_tbl := List.mem_of_getElem? (i := 434) (by decide +kernel)
theorem wd_X7_clearText : Cond.code yX7_clearText cX7_clearText 2 (some .int) ∈ lw_tbl := List.mem_of_getElem? (i := 764) (by decide +kernel)
theorem wd_X7_count : Cond.code yX7_count cX7_count 2 (some .int) ∈ lw_tbl := List.mem_of_getElem? (i := 748) (by decide +kernel)
theorem wd_X7_dissent : Cond.code yX7_dissent cX7_dissent 4 (some .int) ∈ lw_tbl := List.mem_of_getElem? (i := 628) (by decide +kernel)
theorem wd_X7_edges : Cond.code yX7_edges cX7_edges 4 (some .int) ∈ lw_tbl := List.mem_of_getElem? (i := 551) (by decide +kernel)
theorem wd_X7_fault : Cond.code yX7_fault cX7_fault 2 (some .int) ∈ lw_tbl := List.mem_of_getElem? (i := 768) (by decide +kernel)
theorem wd_X7_fitting : Cond.code yX7_fitting cX7_fitting 6 (some .int) ∈ lw_tbl := List.mem_of_getElem? (i := 744) (by decide +kernel)
theorem wd_X7_forget : Cond.code yX7_forget cX7_forget 2 (some .int) ∈ lw_tbl := List.mem_of_getElem? (i := 519) (by decide +kernel)
theorem wd_X7_frameOf : Cond.code yX7_frameOf cX7_frameOf 4 (some .int) ∈ lw_tbl := List.mem_of_getElem? (i := 525) (by decide +kernel)
theorem wd_X7_init : Cond.code yX7_init cX7_init 2 none ∈ lw_tbl := List.mem_of_getElem? (i := 69) (by decide +kernel)
theorem wd_X7_judge : Cond.code yX7_judge cX7_judge 4 (some .int) ∈ lw_tbl := List.mem_of_getElem? (i := 662) (by decide +kernel)
theorem wd_X7_motions : Cond.code yX7_motions cX7_motions 3 (some .int) ∈ lw_tbl := List.mem_of_getElem? (i := 681) (by decide +kernel)
theorem wd_X7_pass : Cond.code yX7_pass cX7_pass 2 (some .int) ∈ lw_tbl := List.mem_of_getElem? (i := 555) (by decide +kernel)
theorem wd_X7_periods : Cond.code yX7_periods cX7_periods 4 (some .int) ∈ lw_tbl := List.mem_of_getElem? (i := 725) (by decide +kernel)
theorem wd_X7_pixel : Cond.code yX7_pixel cX7_pixel 5 (some .int) ∈ lw_tbl := List.mem_of_getElem? (i := 545) (by decide +kernel)
theorem wd_X7_play : Cond.code yX7_play cX7_play 4 (some .int) ∈ lw_tbl := List.mem_of_getElem? (i := 819) (by decide +kernel)
theorem wd_X7_rowOf : Cond.code yX7_rowOf cX7_rowOf 3 (some .int) ∈ lw_tbl := List.mem_of_getElem? (i := 670) (by decide +kernel)
theorem wd_X7_set : Cond.code yX7_set cX7_set 4 (some .int) ∈ lw_tbl := List.mem_of_getElem? (i := 342) (by decide +kernel)
theorem wd_X7_shift : Cond.code yX7_shift cX7_shift 3 (some .int) ∈ lw_tbl := List.mem_of_getElem? (i := 607) (by decide +kernel)
theorem wd_X7_shoot : Cond.code yX7_shoot cX7_shoot 1 (some .int) ∈ lw_tbl := List.mem_of_getElem? (i := 492) (by decide +kernel)
theorem wd_X7_shows : Cond.code yX7_shows cX7_shows 4 (some .int) ∈ lw_tbl := List.mem_of_getElem? (i := 447) (by decide +kernel)
theorem wd_X7_slant : Cond.code yX7_slant cX7_slant 3 (some .int) ∈ lw_tbl := List.mem_of_getElem? (i := 641) (by decide +kernel)
theorem wd_X7_slantSpeed : Cond.code yX7_slantSpeed cX7_slantSpeed 5 (some .int) ∈ lw_tbl := List.mem_of_getElem? (i := 650) (by decide +kernel)
theorem wd_X7_speed : Cond.code yX7_speed cX7_speed 7 (some .int) ∈ lw_tbl := List.mem_of_getElem? (i := 637) (by decide +kernel)
theorem wd_X7_thing : Cond.code yX7_thing cX7_thing 7 (some .int) ∈ lw_tbl := List.mem_of_getElem? (i := 400) (by decide +kernel)
theorem wd_X7_thingOf : Cond.code yX7_thingOf cX7_thingOf 4 (some .int) ∈ lw_tbl := List.mem_of_getElem? (i := 425) (by decide +kernel)
theorem wd_X7_turn : Cond.code yX7_turn cX7_turn 5 (some .int) ∈ lw_tbl := List.mem_of_getElem? (i := 412) (by decide +kernel)
theorem wd_X7_type : Cond.code yX7_type cX7_type 2 (some .int) ∈ lw_tbl := List.mem_of_getElem? (i := 756) (by decide +kernel)
theorem wd_X7_undo : Cond.code yX7_undo cX7_undo 2 (some .int) ∈ lw_tbl := List.mem_of_getElem? (i := 752) (by decide +kernel)
theorem wd_X7_vote : Cond.code yX7_vote cX7_vote 4 (some .int) ∈ lw_tbl := List.mem_of_getElem? (i := 559) (by decide +kernel)
theorem wd_X7_voters : Cond.code yX7_voters cX7_voters 4 (some .int) ∈ lw_tbl := List.mem_of_getElem? (i := 620) (by decide +kernel)
theorem wd_X7_weighed : Cond.code yX7_weighed cX7_weighed 3 (some .int) ∈ lw_tbl := List.mem_of_getElem? (i := 654) (by decide +kernel)
theorem wd_X8_bestWait : Cond.code yX8_bestWait cX8_bestWait 8 (some .int) ∈ lw_tbl := List.mem_of_getElem? (i := 1108) (by decide +kernel)
theorem wd_X8_blind : Cond.code yX8_blind cX8_blind 3 (some .int) ∈ lw_tbl := List.mem_of_getElem? (i := 937) (by decide +kernel)
theorem wd_X8_clearText : Cond.code yX8_clearText cX8_clearText 2 (some .int) ∈ lw_tbl := List.mem_of_getElem? (i := 1152) (by decide +kernel)
theorem wd_X8_count : Cond.code yX8_count cX8_count 2 (some .int) ∈ lw_tbl := List.mem_of_getElem? (i := 1140) (by decide +kernel)
theorem wd_X8_dissent : Cond.code yX8_dissent cX8_dissent 4 (some .int) ∈ lw_tbl := List.mem_of_getElem? (i := 1076) (by decide +kernel)
theorem wd_X8_edges : Cond.code yX8_edges cX8_edges 3 (some .int) ∈ lw_tbl := List.mem_of_getElem? (i := 1015) (by decide +kernel)
theorem wd_X8_fault : Cond.code yX8_fault cX8_fault 2 (some .int) ∈ lw_tbl := List.mem_of_getElem? (i := 1156) (by decide +kernel)
theorem wd_X8_fitting : Cond.code yX8_fitting cX8_fitting 4 (some .int) ∈ lw_tbl := List.mem_of_getElem? (i := 1136) (by decide +kernel)
theorem wd_X8_forget : Cond.code yX8_forget cX8_forget 2 (some .int) ∈ lw_tbl := List.mem_of_getElem? (i := 975) (by decide +kernel)
theorem wd_X8_frameOf : Cond.code yX8_frameOf cX8_frameOf 5 (some .int) ∈ lw_tbl := List.mem_of_getElem? (i := 983) (by decide +kernel)
theorem wd_X8_init : Cond.code yX8_init cX8_init 1 none ∈ lw_tbl := List.mem_of_getElem? (i := 831) (by decide +kernel)
theorem wd_X8_judge : Cond.code yX8_judge cX8_judge 7 (some .int) ∈ lw_tbl := List.mem_of_getElem? (i := 1100) (by decide +kernel)
theorem wd_X8_motions : Cond.code yX8_motions cX8_motions 3 (some .int) ∈ lw_tbl := List.mem_of_getElem? (i := 1116) (by decide +kernel)
theorem wd_X8_pass : Cond.code yX8_pass cX8_pass 2 (some .int) ∈ lw_tbl := List.mem_of_getElem? (i := 1019) (by decide +kernel)
theorem wd_X8_periods : Cond.code yX8_periods cX8_periods 3 (some .int) ∈ lw_tbl := List.mem_of_getElem? (i := 1132) (by decide +kernel)
theorem wd_X8_pixel : Cond.code yX8_pixel cX8_pixel 4 (some .int) ∈ lw_tbl := List.mem_of_getElem? (i := 1010) (by decide +kernel)
theorem wd_X8_play : Cond.code yX8_play cX8_play 2 (some .int) ∈ lw_tbl := List.mem_of_getElem? (i := 1195) (by decide +kernel)
theorem wd_X8_rowOf : Cond.code yX8_rowOf cX8_rowOf 3 (some .int) ∈ lw_tbl := List.mem_of_getElem? (i := 1104) (by decide +kernel)
theorem wd_X8_set : Cond.code yX8_set cX8_set 4 (some .int) ∈ lw_tbl := List.mem_of_getElem? (i := 891) (by decide +kernel)
theorem wd_X8_shift : Cond.code yX8_shift cX8_shift 4 (some .int) ∈ lw_tbl := List.mem_of_getElem? (i := 1044) (by decide +kernel)
theorem wd_X8_shoot : Cond.code yX8_shoot cX8_shoot 1 (some .int) ∈ lw_tbl := List.mem_of_getElem? (i := 965) (by decide +kernel)
theorem wd_X8_shows : Cond.code yX8_shows cX8_shows 4 (some .int) ∈ lw_tbl := List.mem_of_getElem? (i := 944) (by decide +kernel)
theorem wd_X8_slant : Cond.code yX8_slant cX8_slant 3 (some .int) ∈ lw_tbl := List.mem_of_getElem? (i := 1084) (by decide +kernel)
theorem wd_X8_slantSpeed : Cond.code yX8_slantSpeed cX8_slantSpeed 3 (some .int) ∈ lw_tbl := List.mem_of_getElem? (i := 1092) (by decide +kernel)
theorem wd_X8_speed : Cond.code yX8_speed cX8_speed 5 (some .int) ∈ lw_tbl := List.mem_of_getElem? (i := 1080) (by decide +kernel)
theorem wd_X8_thing : Cond.code yX8_thing cX8_thing 7 (some .int) ∈ lw_tbl := List.mem_of_getElem? (i := 910) (by decide +kernel)
theorem wd_X8_thingOf : Cond.code yX8_thingOf cX8_thingOf 3 (some .int) ∈ lw_tbl := List.mem_of_getElem? (i := 933) (by decide +kernel)
theorem wd_X8_turn : Cond.code yX8_turn cX8_turn 5 (some .int) ∈ lw_tbl := List.mem_of_getElem? (i := 922) (by decide +kernel)
theorem wd_X8_type : Cond.code yX8_type cX8_type 2 (some .int) ∈ lw_tbl := List.mem_of_getElem? (i := 1148) (by decide +kernel)
theorem wd_X8_undo : Cond.code yX8_undo cX8_undo 1 (some .int) ∈ lw_tbl := List.mem_of_getElem? (i := 1144) (by decide +kernel)
theorem wd_X8_vote : Cond.code yX8_vote cX8_vote 5 (some .int) ∈ lw_tbl := List.mem_of_getElem? (i := 1023) (by decide +kernel)
theorem wd_X8_voters : Cond.code yX8_voters cX8_voters 4 (some .int) ∈ lw_tbl := List.mem_of_getElem? (i := 1068) (by decide +kernel)
theorem wd_X8_weighed : Cond.code yX8_weighed cX8_weighed 4 (some .int) ∈ lw_tbl := List.mem_of_getElem? (i := 1096) (by decide +kernel)
theorem wi_X7 : Cond.instantiable RX7 8 ∈ lw_tbl := List.mem_of_getElem? (i := 66) (by decide +kernel)
theorem wi_X8 : Cond.instantiable RX8 18 ∈ lw_tbl := List.mem_of_getElem? (i := 828) (by decide +kernel)
theorem wl_RL_10 : Cond.classLink RL 10 RX8 ∈ lw_tbl := List.mem_of_getElem? (i := 827) (by decide +kernel)
theorem wl_RL_7 : Cond.classLink RL 7 RX7 ∈ lw_tbl := List.mem_of_getElem? (i := 65) (by decide +kernel)
theorem wm_RL_101 : Cond.methodLink RL 101 yX8_judge ∈ lw_tbl := List.mem_of_getElem? (i := 1097) (by decide +kernel)
theorem wm_RL_102 : Cond.methodLink RL 102 yX7_rowOf ∈ lw_tbl := List.mem_of_getElem? (i := 667) (by decide +kernel)
theorem wm_RL_105 : Cond.methodLink RL 105 yX8_rowOf ∈ lw_tbl := List.mem_of_getElem? (i := 1101) (by decide +kernel)
theorem wm_RL_106 : Cond.methodLink RL 106 yX7_bestWait ∈ lw_tbl := List.mem_of_getElem? (i := 672) (by decide +kernel)
theorem wm_RL_109 : Cond.methodLink RL 109 yX8_bestWait ∈ lw_tbl := List.mem_of_getElem? (i := 1105) (by decide +kernel)
theorem wm_RL_110 : Cond.methodLink RL 110 yX7_motions ∈ lw_tbl := List.mem_of_getElem? (i := 678) (by decide +kernel)
theorem wm_RL_113 : Cond.methodLink RL 113 yX8_motions ∈ lw_tbl := List.mem_of_getElem? (i := 1113) (by decide +kernel)
theorem wm_RL_114 : Cond.methodLink RL 114 yX7_periods ∈ lw_tbl := List.mem_of_getElem? (i := 722) (by decide +kernel)
theorem wm_RL_117 : Cond.methodLink RL 117 yX8_periods ∈ lw_tbl := List.mem_of_getElem? (i := 1129) (by decide +kernel)
theorem wm_RL_118 : Cond.methodLink RL 118 yX7_fitting ∈ lw_tbl := List.mem_of_getElem? (i := 741) (by decide +kernel)
theorem wm_RL_12 : Cond.methodLink RL 12 yX8_init ∈ lw_tbl := List.mem_of_getElem? (i := 829) (by decide +kernel)
theorem wm_RL_121 : Cond.methodLink RL 121 yX8_fitting ∈ lw_tbl := List.mem_of_getElem? (i := 1133) (by decide +kernel)
theorem wm_RL_122 : Cond.methodLink RL 122 yX7_count ∈ lw_tbl := List.mem_of_getElem? (i := 745) (by decide +kernel)
theorem wm_RL_125 : Cond.methodLink RL 125 yX8_count ∈ lw_tbl := List.mem_of_getElem? (i := 1137) (by decide +kernel)
theorem wm_RL_126 : Cond.methodLink RL 126 yX7_undo ∈ lw_tbl := List.mem_of_getElem? (i := 749) (by decide +kernel)
theorem wm_RL_129 : Cond.methodLink RL 129 yX8_undo ∈ lw_tbl := List.mem_of_getElem? (i := 1141) (by decide +kernel)
theorem wm_RL_13 : Cond.methodLink RL 13 yX7_set ∈ lw_tbl := List.mem_of_getElem? (i := 339) (by decide +kernel)
theorem wm_RL_130 : Cond.methodLink RL 130 yX7_type ∈ lw_tbl := List.mem_of_getElem? (i := 753) (by decide +kernel)
theorem wm_RL_133 : Cond.methodLink RL 133 yX8_type ∈ lw_tbl := List.mem_of_getElem? (i := 1145) (by decide +kernel)
theorem wm_RL_134 : Cond.methodLink RL 134 yX7_clearText ∈ lw_tbl := List.mem_of_getElem? (i := 761) (by decide +kernel)
theorem wm_RL_137 : Cond.methodLink RL 137 yX8_clearText ∈ lw_tbl := List.mem_of_getElem? (i := 1149) (by decide +kernel)
theorem wm_RL_138 : Cond.methodLink RL 138 yX7_fault ∈ lw_tbl := List.mem_of_getElem? (i := 765) (by decide +kernel)
theorem wm_RL_141 : Cond.methodLink RL 141 yX8_fault ∈ lw_tbl := List.mem_of_getElem? (i := 1153) (by decide +kernel)
theorem wm_RL_142 : Cond.methodLink RL 142 yX7_play ∈ lw_tbl := List.mem_of_getElem? (i := 816) (by decide +kernel)
theorem wm_RL_145 : Cond.methodLink RL 145 yX8_play ∈ lw_tbl := List.mem_of_getElem? (i := 1192) (by decide +kernel)
theorem wm_RL_17 : Cond.methodLink RL 17 yX8_set ∈ lw_tbl := List.mem_of_getElem? (i := 888) (by decide +kernel)
theorem wm_RL_18 : Cond.methodLink RL 18 yX7_thing ∈ lw_tbl := List.mem_of_getElem? (i := 397) (by decide +kernel)
theorem wm_RL_22 : Cond.methodLink RL 22 yX8_thing ∈ lw_tbl := List.mem_of_getElem? (i := 907) (by decide +kernel)
theorem wm_RL_23 : Cond.methodLink RL 23 yX7_turn ∈ lw_tbl := List.mem_of_getElem? (i := 409) (by decide +kernel)
theorem wm_RL_26 : Cond.methodLink RL 26 yX8_turn ∈ lw_tbl := List.mem_of_getElem? (i := 919) (by decide +kernel)
theorem wm_RL_27 : Cond.methodLink RL 27 yX7_thingOf ∈ lw_tbl := List.mem_of_getElem? (i := 422) (by decide +kernel)
theorem wm_RL_30 : Cond.methodLink RL 30 yX8_thingOf ∈ lw_tbl := List.mem_of_getElem? (i := 930) (by decide +kernel)
theorem wm_RL_31 : Cond.methodLink RL 31 yX7_blind ∈ lw_tbl := List.mem_of_getElem? (i := 431) (by decide +kernel)
theorem wm_RL_34 : Cond.methodLink RL 34 yX8_blind ∈ lw_tbl := List.mem_of_getElem? (i := 934) (by decide +kernel)
theorem wm_RL_35 : Cond.methodLink RL 35 yX7_shows ∈ lw_tbl := List.mem_of_getElem? (i := 444) (by decide +kernel)
theorem wm_RL_39 : Cond.methodLink RL 39 yX8_shows ∈ lw_tbl := List.mem_of_getElem? (i := 941) (by decide +kernel)
theorem wm_RL_40 : Cond.methodLink RL 40 yX7_shoot ∈ lw_tbl := List.mem_of_getElem? (i := 489) (by decide +kernel)
theorem wm_RL_44 : Cond.methodLink RL 44 yX8_shoot ∈ lw_tbl := List.mem_of_getElem? (i := 962) (by decide +kernel)
theorem wm_RL_45 : Cond.methodLink RL 45 yX7_forget ∈ lw_tbl := List.mem_of_getElem? (i := 516) (by decide +kernel)
theorem wm_RL_49 : Cond.methodLink RL 49 yX8_forget ∈ lw_tbl := List.mem_of_getElem? (i := 972) (by decide +kernel)
theorem wm_RL_50 : Cond.methodLink RL 50 yX7_frameOf ∈ lw_tbl := List.mem_of_getElem? (i := 522) (by decide +kernel)
theorem wm_RL_53 : Cond.methodLink RL 53 yX8_frameOf ∈ lw_tbl := List.mem_of_getElem? (i := 980) (by decide +kernel)
theorem wm_RL_54 : Cond.methodLink RL 54 yX7_pixel ∈ lw_tbl := List.mem_of_getElem? (i := 542) (by decide +kernel)
theorem wm_RL_57 : Cond.methodLink RL 57 yX8_pixel ∈ lw_tbl := List.mem_of_getElem? (i := 1007) (by decide +kernel)
theorem wm_RL_58 : Cond.methodLink RL 58 yX7_edges ∈ lw_tbl := List.mem_of_getElem? (i := 548) (by decide +kernel)
theorem wm_RL_61 : Cond.methodLink RL 61 yX8_edges ∈ lw_tbl := List.mem_of_getElem? (i := 1012) (by decide +kernel)
theorem wm_RL_62 : Cond.methodLink RL 62 yX7_pass ∈ lw_tbl := List.mem_of_getElem? (i := 552) (by decide +kernel)
theorem wm_RL_65 : Cond.methodLink RL 65 yX8_pass ∈ lw_tbl := List.mem_of_getElem? (i := 1016) (by decide +kernel)
theorem wm_RL_66 : Cond.methodLink RL 66 yX7_vote ∈ lw_tbl := List.mem_of_getElem? (i := 556) (by decide +kernel)
theorem wm_RL_69 : Cond.methodLink RL 69 yX8_vote ∈ lw_tbl := List.mem_of_getElem? (i := 1020) (by decide +kernel)
theorem wm_RL_70 : Cond.methodLink RL 70 yX7_shift ∈ lw_tbl := List.mem_of_getElem? (i := 604) (by decide +kernel)
theorem wm_RL_73 : Cond.methodLink RL 73 yX8_shift ∈ lw_tbl := List.mem_of_getElem? (i := 1041) (by decide +kernel)
theorem wm_RL_74 : Cond.methodLink RL 74 yX7_voters ∈ lw_tbl := List.mem_of_getElem? (i := 617) (by decide +kernel)
theorem wm_RL_77 : Cond.methodLink RL 77 yX8_voters ∈ lw_tbl := List.mem_of_getElem? (i := 1065) (by decide +kernel)
theorem wm_RL_78 : Cond.methodLink RL 78 yX7_dissent ∈ lw_tbl := List.mem_of_getElem? (i := 625) (by decide +kernel)
theorem wm_RL_81 : Cond.methodLink RL 81 yX8_dissent ∈ lw_tbl := List.mem_of_getElem? (i := 1073) (by decide +kernel)
theorem wm_RL_82 : Cond.methodLink RL 82 yX7_speed ∈ lw_tbl := List.mem_of_getElem? (i := 634) (by decide +kernel)
theorem wm_RL_85 : Cond.methodLink RL 85 yX8_speed ∈ lw_tbl := List.mem_of_getElem? (i := 1077) (by decide +kernel)
theorem wm_RL_86 : Cond.methodLink RL 86 yX7_slant ∈ lw_tbl := List.mem_of_getElem? (i := 638) (by decide +kernel)
theorem wm_RL_89 : Cond.methodLink RL 89 yX8_slant ∈ lw_tbl := List.mem_of_getElem? (i := 1081) (by decide +kernel)
theorem wm_RL_9 : Cond.methodLink RL 9 yX7_init ∈ lw_tbl := List.mem_of_getElem? (i := 67) (by decide +kernel)
theorem wm_RL_90 : Cond.methodLink RL 90 yX7_slantSpeed ∈ lw_tbl := List.mem_of_getElem? (i := 647) (by decide +kernel)
theorem wm_RL_93 : Cond.methodLink RL 93 yX8_slantSpeed ∈ lw_tbl := List.mem_of_getElem? (i := 1089) (by decide +kernel)
theorem wm_RL_94 : Cond.methodLink RL 94 yX7_weighed ∈ lw_tbl := List.mem_of_getElem? (i := 651) (by decide +kernel)
theorem wm_RL_97 : Cond.methodLink RL 97 yX8_weighed ∈ lw_tbl := List.mem_of_getElem? (i := 1093) (by decide +kernel)
theorem wm_RL_98 : Cond.methodLink RL 98 yX7_judge ∈ lw_tbl := List.mem_of_getElem? (i := 659) (by decide +kernel)
theorem wv_X7_bestWait : Cond.instanceMethod yX7_bestWait ∈ lw_tbl := List.mem_of_getElem? (i := 673) (by decide +kernel)
theorem wv_X7_blind : Cond.instanceMethod yX7_blind ∈ lw_tbl := List.mem_of_getElem? (i := 432) (by decide +kernel)
theorem wv_X7_clearText : Cond.instanceMethod yX7_clearText ∈ lw_tbl := List.mem_of_getElem? (i := 762) (by decide +kernel)
theorem wv_X7_count : Cond.instanceMethod yX7_count ∈ lw_tbl := List.mem_of_getElem? (i := 746) (by decide +kernel)
theorem wv_X7_dissent : Cond.instanceMethod yX7_dissent ∈ lw_tbl := List.mem_of_getElem? (i := 626) (by decide +kernel)
theorem wv_X7_edges : Cond.instanceMethod yX7_edges ∈ lw_tbl := List.mem_of_getElem? (i := 549) (by decide +kernel)
theorem wv_X7_fault : Cond.instanceMethod yX7_fault ∈ lw_tbl := List.mem_of_getElem? (i := 766) (by decide +kernel)
theorem wv_X7_fitting : Cond.instanceMethod yX7_fitting ∈ lw_tbl := List.mem_of_getElem? (i := 742) (by decide +kernel)
theorem wv_X7_forget : Cond.instanceMethod yX7_forget ∈ lw_tbl := List.mem_of_getElem? (i := 517) (by decide +kernel)
theorem wv_X7_frameOf : Cond.instanceMethod yX7_frameOf ∈ lw_tbl := List.mem_of_getElem? (i := 523) (by decide +kernel)
theorem wv_X7_init : Cond.instanceMethod yX7_init ∈ lw_tbl := List.mem_of_getElem? (i := 68) (by decide +kernel)
theorem wv_X7_judge : Cond.instanceMethod yX7_judge ∈ lw_tbl := List.mem_of_getElem? (i := 660) (by decide +kernel)
theorem wv_X7_motions : Cond.instanceMethod yX7_motions ∈ lw_tbl := List.mem_of_getElem? (i := 679) (by decide +kernel)
theorem wv_X7_pass : Cond.instanceMethod yX7_pass ∈ lw_tbl := List.mem_of_getElem? (i := 553) (by decide +kernel)
theorem wv_X7_periods : Cond.instanceMethod yX7_periods ∈ lw_tbl := List.mem_of_getElem? (i := 723) (by decide +kernel)
theorem wv_X7_pixel : Cond.instanceMethod yX7_pixel ∈ lw_tbl := List.mem_of_getElem? (i := 543) (by decide +kernel)
theorem wv_X7_play : Cond.instanceMethod yX7_play ∈ lw_tbl := List.mem_of_getElem? (i := 817) (by decide +kernel)
theorem wv_X7_rowOf : Cond.instanceMethod yX7_rowOf ∈ lw_tbl := List.mem_of_getElem? (i := 668) (by decide +kernel)
theorem wv_X7_set : Cond.instanceMethod yX7_set ∈ lw_tbl := List.mem_of_getElem? (i := 340) (by decide +kernel)
theorem wv_X7_shift : Cond.instanceMethod yX7_shift ∈ lw_tbl := List.mem_of_getElem? (i := 605) (by decide +kernel)
theorem wv_X7_shoot : Cond.instanceMethod yX7_shoot ∈ lw_tbl := List.mem_of_getElem? (i := 490) (by decide +kernel)
theorem wv_X7_shows : Cond.instanceMethod yX7_shows ∈ lw_tbl := List.mem_of_getElem? (i := 445) (by decide +kernel)
theorem wv_X7_slant : Cond.instanceMethod yX7_slant ∈ lw_tbl := List.mem_of_getElem? (i := 639) (by decide +kernel)
theorem wv_X7_slantSpeed : Cond.instanceMethod yX7_slantSpeed ∈ lw_tbl := List.mem_of_getElem? (i := 648) (by decide +kernel)
theorem wv_X7_speed : Cond.instanceMethod yX7_speed ∈ lw_tbl := List.mem_of_getElem? (i := 635) (by decide +kernel)
theorem wv_X7_thing : Cond.instanceMethod yX7_thing ∈ lw_tbl := List.mem_of_getElem? (i := 398) (by decide +kernel)
theorem wv_X7_thingOf : Cond.instanceMethod yX7_thingOf ∈ lw_tbl := List.mem_of_getElem? (i := 423) (by decide +kernel)
theorem wv_X7_turn : Cond.instanceMethod yX7_turn ∈ lw_tbl := List.mem_of_getElem? (i := 410) (by decide +kernel)
theorem wv_X7_type : Cond.instanceMethod yX7_type ∈ lw_tbl := List.mem_of_getElem? (i := 754) (by decide +kernel)
theorem wv_X7_undo : Cond.instanceMethod yX7_undo ∈ lw_tbl := List.mem_of_getElem? (i := 750) (by decide +kernel)
theorem wv_X7_vote : Cond.instanceMethod yX7_vote ∈ lw_tbl := List.mem_of_getElem? (i := 557) (by decide +kernel)
theorem wv_X7_voters : Cond.instanceMethod yX7_voters ∈ lw_tbl := List.mem_of_getElem? (i := 618) (by decide +kernel)
theorem wv_X7_weighed : Cond.instanceMethod yX7_weighed ∈ lw_tbl := List.mem_of_getElem? (i := 652) (by decide +kernel)
theorem wv_X8_bestWait : Cond.instanceMethod yX8_bestWait ∈ lw_tbl := List.mem_of_getElem? (i := 1106) (by decide +kernel)
theorem wv_X8_blind : Cond.instanceMethod yX8_blind ∈ lw_tbl := List.mem_of_getElem? (i := 935) (by decide +kernel)
theorem wv_X8_clearText : Cond.instanceMethod yX8_clearText ∈ lw_tbl := List.mem_of_getElem? (i := 1150) (by decide +kernel)
theorem wv_X8_count : Cond.instanceMethod yX8_count ∈ lw_tbl := List.mem_of_getElem? (i := 1138) (by decide +kernel)
theorem wv_X8_dissent : Cond.instanceMethod yX8_dissent ∈ lw_tbl := List.mem_of_getElem? (i := 1074) (by decide +kernel)
theorem wv_X8_edges : Cond.instanceMethod yX8_edges ∈ lw_tbl := List.mem_of_getElem? (i := 1013) (by decide +kernel)
theorem wv_X8_fault : Cond.instanceMethod yX8_fault ∈ lw_tbl := List.mem_of_getElem? (i := 1154) (by decide +kernel)
theorem wv_X8_fitting : Cond.instanceMethod yX8_fitting ∈ lw_tbl := List.mem_of_getElem? (i := 1134) (by decide +kernel)
theorem wv_X8_forget : Cond.instanceMethod yX8_forget ∈ lw_tbl := List.mem_of_getElem? (i := 973) (by decide +kernel)
theorem wv_X8_frameOf : Cond.instanceMethod yX8_frameOf ∈ lw_tbl := List.mem_of_getElem? (i := 981) (by decide +kernel)
theorem wv_X8_init : Cond.instanceMethod yX8_init ∈ lw_tbl := List.mem_of_getElem? (i := 830) (by decide +kernel)
theorem wv_X8_judge : Cond.instanceMethod yX8_judge ∈ lw_tbl := List.mem_of_getElem? (i := 1098) (by decide +kernel)
theorem wv_X8_motions : Cond.instanceMethod yX8_motions ∈ lw_tbl := List.mem_of_getElem? (i := 1114) (by decide +kernel)
theorem wv_X8_pass : Cond.instanceMethod yX8_pass ∈ lw_tbl := List.mem_of_getElem? (i := 1017) (by decide +kernel)
theorem wv_X8_periods : Cond.instanceMethod yX8_periods ∈ lw_tbl := List.mem_of_getElem? (i := 1130) (by decide +kernel)
theorem wv_X8_pixel : Cond.instanceMethod yX8_pixel ∈ lw_tbl := List.mem_of_getElem? (i := 1008) (by decide +kernel)
theorem wv_X8_play : Cond.instanceMethod yX8_play ∈ lw_tbl := List.mem_of_getElem? (i := 1193) (by decide +kernel)
theorem wv_X8_rowOf : Cond.instanceMethod yX8_rowOf ∈ lw_tbl := List.mem_of_getElem? (i := 1102) (by decide +kernel)
theorem wv_X8_set : Cond.instanceMethod yX8_set ∈ lw_tbl := List.mem_of_getElem? (i := 889) (by decide +kernel)
theorem wv_X8_shift : Cond.instanceMethod yX8_shift ∈ lw_tbl := List.mem_of_getElem? (i := 1042) (by decide +kernel)
theorem wv_X8_shoot : Cond.instanceMethod yX8_shoot ∈ lw_tbl := List.mem_of_getElem? (i := 963) (by decide +kernel)
theorem wv_X8_shows : Cond.instanceMethod yX8_shows ∈ lw_tbl := List.mem_of_getElem? (i := 942) (by decide +kernel)
theorem wv_X8_slant : Cond.instanceMethod yX8_slant ∈ lw_tbl := List.mem_of_getElem? (i := 1082) (by decide +kernel)
theorem wv_X8_slantSpeed : Cond.instanceMethod yX8_slantSpeed ∈ lw_tbl := List.mem_of_getElem? (i := 1090) (by decide +kernel)
theorem wv_X8_speed : Cond.instanceMethod yX8_speed ∈ lw_tbl := List.mem_of_getElem? (i := 1078) (by decide +kernel)
theorem wv_X8_thing : Cond.instanceMethod yX8_thing ∈ lw_tbl := List.mem_of_getElem? (i := 908) (by decide +kernel)
theorem wv_X8_thingOf : Cond.instanceMethod yX8_thingOf ∈ lw_tbl := List.mem_of_getElem? (i := 931) (by decide +kernel)
theorem wv_X8_turn : Cond.instanceMethod yX8_turn ∈ lw_tbl := List.mem_of_getElem? (i := 920) (by decide +kernel)
theorem wv_X8_type : Cond.instanceMethod yX8_type ∈ lw_tbl := List.mem_of_getElem? (i := 1146) (by decide +kernel)
theorem wv_X8_undo : Cond.instanceMethod yX8_undo ∈ lw_tbl := List.mem_of_getElem? (i := 1142) (by decide +kernel)
theorem wv_X8_vote : Cond.instanceMethod yX8_vote ∈ lw_tbl := List.mem_of_getElem? (i := 1021) (by decide +kernel)
theorem wv_X8_voters : Cond.instanceMethod yX8_voters ∈ lw_tbl := List.mem_of_getElem? (i := 1066) (by decide +kernel)
theorem wv_X8_weighed : Cond.instanceMethod yX8_weighed ∈ lw_tbl := List.mem_of_getElem? (i := 1094) (by decide +kernel)
theorem wx_X7_bestWait : Cond.selects RX7 yX7_bestWait yX7_bestWait ∈ lw_tbl := List.mem_of_getElem? (i := 674) (by decide +kernel)
theorem wx_X7_blind : Cond.selects RX7 yX7_blind yX7_blind ∈ lw_tbl := List.mem_of_getElem? (i := 433) (by decide +kernel)
theorem wx_X7_clearText : Cond.selects RX7 yX7_clearText yX7_clearText ∈ lw_tbl := List.mem_of_getElem? (i := 763) (by decide +kernel)
theorem wx_X7_count : Cond.selects RX7 yX7_count yX7_count ∈ lw_tbl := List.mem_of_getElem? (i := 747) (by decide +kernel)
theorem wx_X7_dissent : Cond.selects RX7 yX7_dissent yX7_dissent ∈ lw_tbl := List.mem_of_getElem? (i := 627) (by decide +kernel)
theorem wx_X7_edges : Cond.selects RX7 yX7_edges yX7_edges ∈ lw_tbl := List.mem_of_getElem? (i := 550) (by decide +kernel)
theorem wx_X7_fault : Cond.selects RX7 yX7_fault yX7_fault ∈ lw_tbl := List.mem_of_getElem? (i := 767) (by decide +kernel)
theorem wx_X7_fitting : Cond.selects RX7 yX7_fitting yX7_fitting ∈ lw_tbl := List.mem_of_getElem? (i := 743) (by decide +kernel)
theorem wx_X7_forget : Cond.selects RX7 yX7_forget yX7_forget ∈ lw_tbl := List.mem_of_getElem? (i := 518) (by decide +kernel)
theorem wx_X7_frameOf : Cond.selects RX7 yX7_frameOf yX7_frameOf ∈ lw_tbl := List.mem_of_getElem? (i := 524) (by decide +kernel)
theorem wx_X7_judge : Cond.selects RX7 yX7_judge yX7_judge ∈ lw_tbl := List.mem_of_getElem? (i := 661) (by decide +kernel)
theorem wx_X7_motions : Cond.selects RX7 yX7_motions yX7_motions ∈ lw_tbl := List.mem_of_getElem? (i := 680) (by decide +kernel)
theorem wx_X7_pass : Cond.selects RX7 yX7_pass yX7_pass ∈ lw_tbl := List.mem_of_getElem? (i := 554) (by decide +kernel)
theorem wx_X7_periods : Cond.selects RX7 yX7_periods yX7_periods ∈ lw_tbl := List.mem_of_getElem? (i := 724) (by decide +kernel)
theorem wx_X7_pixel : Cond.selects RX7 yX7_pixel yX7_pixel ∈ lw_tbl := List.mem_of_getElem? (i := 544) (by decide +kernel)
theorem wx_X7_play : Cond.selects RX7 yX7_play yX7_play ∈ lw_tbl := List.mem_of_getElem? (i := 818) (by decide +kernel)
theorem wx_X7_rowOf : Cond.selects RX7 yX7_rowOf yX7_rowOf ∈ lw_tbl := List.mem_of_getElem? (i := 669) (by decide +kernel)
theorem wx_X7_set : Cond.selects RX7 yX7_set yX7_set ∈ lw_tbl := List.mem_of_getElem? (i := 341) (by decide +kernel)
theorem wx_X7_shift : Cond.selects RX7 yX7_shift yX7_shift ∈ lw_tbl := List.mem_of_getElem? (i := 606) (by decide +kernel)
theorem wx_X7_shoot : Cond.selects RX7 yX7_shoot yX7_shoot ∈ lw_tbl := List.mem_of_getElem? (i := 491) (by decide +kernel)
theorem wx_X7_shows : Cond.selects RX7 yX7_shows yX7_shows ∈ lw_tbl := List.mem_of_getElem? (i := 446) (by decide +kernel)
theorem wx_X7_slant : Cond.selects RX7 yX7_slant yX7_slant ∈ lw_tbl := List.mem_of_getElem? (i := 640) (by decide +kernel)
theorem wx_X7_slantSpeed : Cond.selects RX7 yX7_slantSpeed yX7_slantSpeed ∈ lw_tbl := List.mem_of_getElem? (i := 649) (by decide +kernel)
theorem wx_X7_speed : Cond.selects RX7 yX7_speed yX7_speed ∈ lw_tbl := List.mem_of_getElem? (i := 636) (by decide +kernel)
theorem wx_X7_thing : Cond.selects RX7 yX7_thing yX7_thing ∈ lw_tbl := List.mem_of_getElem? (i := 399) (by decide +kernel)
theorem wx_X7_thingOf : Cond.selects RX7 yX7_thingOf yX7_thingOf ∈ lw_tbl := List.mem_of_getElem? (i := 424) (by decide +kernel)
theorem wx_X7_turn : Cond.selects RX7 yX7_turn yX7_turn ∈ lw_tbl := List.mem_of_getElem? (i := 411) (by decide +kernel)
theorem wx_X7_type : Cond.selects RX7 yX7_type yX7_type ∈ lw_tbl := List.mem_of_getElem? (i := 755) (by decide +kernel)
theorem wx_X7_undo : Cond.selects RX7 yX7_undo yX7_undo ∈ lw_tbl := List.mem_of_getElem? (i := 751) (by decide +kernel)
theorem wx_X7_vote : Cond.selects RX7 yX7_vote yX7_vote ∈ lw_tbl := List.mem_of_getElem? (i := 558) (by decide +kernel)
theorem wx_X7_voters : Cond.selects RX7 yX7_voters yX7_voters ∈ lw_tbl := List.mem_of_getElem? (i := 619) (by decide +kernel)
theorem wx_X7_weighed : Cond.selects RX7 yX7_weighed yX7_weighed ∈ lw_tbl := List.mem_of_getElem? (i := 653) (by decide +kernel)
theorem wx_X8_bestWait : Cond.selects RX8 yX8_bestWait yX8_bestWait ∈ lw_tbl := List.mem_of_getElem? (i := 1107) (by decide +kernel)
theorem wx_X8_blind : Cond.selects RX8 yX8_blind yX8_blind ∈ lw_tbl := List.mem_of_getElem? (i := 936) (by decide +kernel)
theorem wx_X8_clearText : Cond.selects RX8 yX8_clearText yX8_clearText ∈ lw_tbl := List.mem_of_getElem? (i := 1151) (by decide +kernel)
theorem wx_X8_count : Cond.selects RX8 yX8_count yX8_count ∈ lw_tbl := List.mem_of_getElem? (i := 1139) (by decide +kernel)
theorem wx_X8_dissent : Cond.selects RX8 yX8_dissent yX8_dissent ∈ lw_tbl := List.mem_of_getElem? (i := 1075) (by decide +kernel)
theorem wx_X8_edges : Cond.selects RX8 yX8_edges yX8_edges ∈ lw_tbl := List.mem_of_getElem? (i := 1014) (by decide +kernel)
theorem wx_X8_fault : Cond.selects RX8 yX8_fault yX8_fault ∈ lw_tbl := List.mem_of_getElem? (i := 1155) (by decide +kernel)
theorem wx_X8_fitting : Cond.selects RX8 yX8_fitting yX8_fitting ∈ lw_tbl := List.mem_of_getElem? (i := 1135) (by decide +kernel)
theorem wx_X8_forget : Cond.selects RX8 yX8_forget yX8_forget ∈ lw_tbl := List.mem_of_getElem? (i := 974) (by decide +kernel)
theorem wx_X8_frameOf : Cond.selects RX8 yX8_frameOf yX8_frameOf ∈ lw_tbl := List.mem_of_getElem? (i := 982) (by decide +kernel)
theorem wx_X8_judge : Cond.selects RX8 yX8_judge yX8_judge ∈ lw_tbl := List.mem_of_getElem? (i := 1099) (by decide +kernel)
theorem wx_X8_motions : Cond.selects RX8 yX8_motions yX8_motions ∈ lw_tbl := List.mem_of_getElem? (i := 1115) (by decide +kernel)
theorem wx_X8_pass : Cond.selects RX8 yX8_pass yX8_pass ∈ lw_tbl := List.mem_of_getElem? (i := 1018) (by decide +kernel)
theorem wx_X8_periods : Cond.selects RX8 yX8_periods yX8_periods ∈ lw_tbl := List.mem_of_getElem? (i := 1131) (by decide +kernel)
theorem wx_X8_pixel : Cond.selects RX8 yX8_pixel yX8_pixel ∈ lw_tbl := List.mem_of_getElem? (i := 1009) (by decide +kernel)
theorem wx_X8_play : Cond.selects RX8 yX8_play yX8_play ∈ lw_tbl := List.mem_of_getElem? (i := 1194) (by decide +kernel)
theorem wx_X8_rowOf : Cond.selects RX8 yX8_rowOf yX8_rowOf ∈ lw_tbl := List.mem_of_getElem? (i := 1103) (by decide +kernel)
theorem wx_X8_set : Cond.selects RX8 yX8_set yX8_set ∈ lw_tbl := List.mem_of_getElem? (i := 890) (by decide +kernel)
theorem wx_X8_shift : Cond.selects RX8 yX8_shift yX8_shift ∈ lw_tbl := List.mem_of_getElem? (i := 1043) (by decide +kernel)
theorem wx_X8_shoot : Cond.selects RX8 yX8_shoot yX8_shoot ∈ lw_tbl := List.mem_of_getElem? (i := 964) (by decide +kernel)
theorem wx_X8_shows : Cond.selects RX8 yX8_shows yX8_shows ∈ lw_tbl := List.mem_of_getElem? (i := 943) (by decide +kernel)
theorem wx_X8_slant : Cond.selects RX8 yX8_slant yX8_slant ∈ lw_tbl := List.mem_of_getElem? (i := 1083) (by decide +kernel)
theorem wx_X8_slantSpeed : Cond.selects RX8 yX8_slantSpeed yX8_slantSpeed ∈ lw_tbl := List.mem_of_getElem? (i := 1091) (by decide +kernel)
theorem wx_X8_speed : Cond.selects RX8 yX8_speed yX8_speed ∈ lw_tbl := List.mem_of_getElem? (i := 1079) (by decide +kernel)
theorem wx_X8_thing : Cond.selects RX8 yX8_thing yX8_thing ∈ lw_tbl := List.mem_of_getElem? (i := 909) (by decide +kernel)
theorem wx_X8_thingOf : Cond.selects RX8 yX8_thingOf yX8_thingOf ∈ lw_tbl := List.mem_of_getElem? (i := 932) (by decide +kernel)
theorem wx_X8_turn : Cond.selects RX8 yX8_turn yX8_turn ∈ lw_tbl := List.mem_of_getElem? (i := 921) (by decide +kernel)
theorem wx_X8_type : Cond.selects RX8 yX8_type yX8_type ∈ lw_tbl := List.mem_of_getElem? (i := 1147) (by decide +kernel)
theorem wx_X8_undo : Cond.selects RX8 yX8_undo yX8_undo ∈ lw_tbl := List.mem_of_getElem? (i := 1143) (by decide +kernel)
theorem wx_X8_vote : Cond.selects RX8 yX8_vote yX8_vote ∈ lw_tbl := List.mem_of_getElem? (i := 1022) (by decide +kernel)
theorem wx_X8_voters : Cond.selects RX8 yX8_voters yX8_voters ∈ lw_tbl := List.mem_of_getElem? (i := 1067) (by decide +kernel)
theorem wx_X8_weighed : Cond.selects RX8 yX8_weighed yX8_weighed ∈ lw_tbl := List.mem_of_getElem? (i := 1095) (by decide +kernel)
theorem mv_X7_bestWait : MSv 7 yX7_bestWait cX7_bestWait 7 (some .int) 2 := ⟨_, rfl, rfl, ⟨⟨wd_X7_bestWait, wz_RX7⟩, by decide, by decide, by decide +kernel⟩, wv_X7_bestWait, wx_X7_bestWait⟩
theorem mv_X7_blind : MSv 7 yX7_blind cX7_blind 3 (some .int) 2 := ⟨_, rfl, rfl, ⟨⟨wd_X7_blind, wz_RX7⟩, by decide, by decide, by decide +kernel⟩, wv_X7_blind, wx_X7_blind⟩
theorem mv_X7_clearText : MSv 7 yX7_clearText cX7_clearText 2 (some .int) 0 := ⟨_, rfl, rfl, ⟨⟨wd_X7_clearText, wz_RX7⟩, by decide, by decide, by decide +kernel⟩, wv_X7_clearText, wx_X7_clearText⟩
theorem mv_X7_count : MSv 7 yX7_count cX7_count 2 (some .int) 1 := ⟨_, rfl, rfl, ⟨⟨wd_X7_count, wz_RX7⟩, by decide, by decide, by decide +kernel⟩, wv_X7_count, wx_X7_count⟩
theorem mv_X7_dissent : MSv 7 yX7_dissent cX7_dissent 4 (some .int) 2 := ⟨_, rfl, rfl, ⟨⟨wd_X7_dissent, wz_RX7⟩, by decide, by decide, by decide +kernel⟩, wv_X7_dissent, wx_X7_dissent⟩
theorem mv_X7_edges : MSv 7 yX7_edges cX7_edges 4 (some .int) 2 := ⟨_, rfl, rfl, ⟨⟨wd_X7_edges, wz_RX7⟩, by decide, by decide, by decide +kernel⟩, wv_X7_edges, wx_X7_edges⟩
theorem mv_X7_fault : MSv 7 yX7_fault cX7_fault 2 (some .int) 1 := ⟨_, rfl, rfl, ⟨⟨wd_X7_fault, wz_RX7⟩, by decide, by decide, by decide +kernel⟩, wv_X7_fault, wx_X7_fault⟩
theorem mv_X7_fitting : MSv 7 yX7_fitting cX7_fitting 6 (some .int) 1 := ⟨_, rfl, rfl, ⟨⟨wd_X7_fitting, wz_RX7⟩, by decide, by decide, by decide +kernel⟩, wv_X7_fitting, wx_X7_fitting⟩
theorem mv_X7_forget : MSv 7 yX7_forget cX7_forget 2 (some .int) 1 := ⟨_, rfl, rfl, ⟨⟨wd_X7_forget, wz_RX7⟩, by decide, by decide, by decide +kernel⟩, wv_X7_forget, wx_X7_forget⟩
theorem mv_X7_frameOf : MSv 7 yX7_frameOf cX7_frameOf 4 (some .int) 2 := ⟨_, rfl, rfl, ⟨⟨wd_X7_frameOf, wz_RX7⟩, by decide, by decide, by decide +kernel⟩, wv_X7_frameOf, wx_X7_frameOf⟩
theorem mi_X7_init : MSi 7 yX7_init cX7_init 2 0 := ⟨_, rfl, ⟨⟨wd_X7_init, wz_RX7⟩, by decide, by decide, by decide +kernel⟩, wv_X7_init, rfl⟩
theorem mv_X7_judge : MSv 7 yX7_judge cX7_judge 4 (some .int) 2 := ⟨_, rfl, rfl, ⟨⟨wd_X7_judge, wz_RX7⟩, by decide, by decide, by decide +kernel⟩, wv_X7_judge, wx_X7_judge⟩
theorem mv_X7_motions : MSv 7 yX7_motions cX7_motions 3 (some .int) 2 := ⟨_, rfl, rfl, ⟨⟨wd_X7_motions, wz_RX7⟩, by decide, by decide, by decide +kernel⟩, wv_X7_motions, wx_X7_motions⟩
theorem mv_X7_pass : MSv 7 yX7_pass cX7_pass 2 (some .int) 1 := ⟨_, rfl, rfl, ⟨⟨wd_X7_pass, wz_RX7⟩, by decide, by decide, by decide +kernel⟩, wv_X7_pass, wx_X7_pass⟩
theorem mv_X7_periods : MSv 7 yX7_periods cX7_periods 4 (some .int) 0 := ⟨_, rfl, rfl, ⟨⟨wd_X7_periods, wz_RX7⟩, by decide, by decide, by decide +kernel⟩, wv_X7_periods, wx_X7_periods⟩
theorem mv_X7_pixel : MSv 7 yX7_pixel cX7_pixel 5 (some .int) 3 := ⟨_, rfl, rfl, ⟨⟨wd_X7_pixel, wz_RX7⟩, by decide, by decide, by decide +kernel⟩, wv_X7_pixel, wx_X7_pixel⟩
theorem mv_X7_play : MSv 7 yX7_play cX7_play 4 (some .int) 0 := ⟨_, rfl, rfl, ⟨⟨wd_X7_play, wz_RX7⟩, by decide, by decide, by decide +kernel⟩, wv_X7_play, wx_X7_play⟩
theorem mv_X7_rowOf : MSv 7 yX7_rowOf cX7_rowOf 3 (some .int) 2 := ⟨_, rfl, rfl, ⟨⟨wd_X7_rowOf, wz_RX7⟩, by decide, by decide, by decide +kernel⟩, wv_X7_rowOf, wx_X7_rowOf⟩
theorem mv_X7_set : MSv 7 yX7_set cX7_set 4 (some .int) 2 := ⟨_, rfl, rfl, ⟨⟨wd_X7_set, wz_RX7⟩, by decide, by decide, by decide +kernel⟩, wv_X7_set, wx_X7_set⟩
theorem mv_X7_shift : MSv 7 yX7_shift cX7_shift 3 (some .int) 2 := ⟨_, rfl, rfl, ⟨⟨wd_X7_shift, wz_RX7⟩, by decide, by decide, by decide +kernel⟩, wv_X7_shift, wx_X7_shift⟩
theorem mv_X7_shoot : MSv 7 yX7_shoot cX7_shoot 1 (some .int) 0 := ⟨_, rfl, rfl, ⟨⟨wd_X7_shoot, wz_RX7⟩, by decide, by decide, by decide +kernel⟩, wv_X7_shoot, wx_X7_shoot⟩
theorem mv_X7_shows : MSv 7 yX7_shows cX7_shows 4 (some .int) 3 := ⟨_, rfl, rfl, ⟨⟨wd_X7_shows, wz_RX7⟩, by decide, by decide, by decide +kernel⟩, wv_X7_shows, wx_X7_shows⟩
theorem mv_X7_slant : MSv 7 yX7_slant cX7_slant 3 (some .int) 1 := ⟨_, rfl, rfl, ⟨⟨wd_X7_slant, wz_RX7⟩, by decide, by decide, by decide +kernel⟩, wv_X7_slant, wx_X7_slant⟩
theorem mv_X7_slantSpeed : MSv 7 yX7_slantSpeed cX7_slantSpeed 5 (some .int) 1 := ⟨_, rfl, rfl, ⟨⟨wd_X7_slantSpeed, wz_RX7⟩, by decide, by decide, by decide +kernel⟩, wv_X7_slantSpeed, wx_X7_slantSpeed⟩
theorem mv_X7_speed : MSv 7 yX7_speed cX7_speed 7 (some .int) 2 := ⟨_, rfl, rfl, ⟨⟨wd_X7_speed, wz_RX7⟩, by decide, by decide, by decide +kernel⟩, wv_X7_speed, wx_X7_speed⟩
theorem mv_X7_thing : MSv 7 yX7_thing cX7_thing 7 (some .int) 6 := ⟨_, rfl, rfl, ⟨⟨wd_X7_thing, wz_RX7⟩, by decide, by decide, by decide +kernel⟩, wv_X7_thing, wx_X7_thing⟩
theorem mv_X7_thingOf : MSv 7 yX7_thingOf cX7_thingOf 4 (some .int) 2 := ⟨_, rfl, rfl, ⟨⟨wd_X7_thingOf, wz_RX7⟩, by decide, by decide, by decide +kernel⟩, wv_X7_thingOf, wx_X7_thingOf⟩
theorem mv_X7_turn : MSv 7 yX7_turn cX7_turn 5 (some .int) 2 := ⟨_, rfl, rfl, ⟨⟨wd_X7_turn, wz_RX7⟩, by decide, by decide, by decide +kernel⟩, wv_X7_turn, wx_X7_turn⟩
theorem mv_X7_type : MSv 7 yX7_type cX7_type 2 (some .int) 1 := ⟨_, rfl, rfl, ⟨⟨wd_X7_type, wz_RX7⟩, by decide, by decide, by decide +kernel⟩, wv_X7_type, wx_X7_type⟩
theorem mv_X7_undo : MSv 7 yX7_undo cX7_undo 2 (some .int) 0 := ⟨_, rfl, rfl, ⟨⟨wd_X7_undo, wz_RX7⟩, by decide, by decide, by decide +kernel⟩, wv_X7_undo, wx_X7_undo⟩
theorem mv_X7_vote : MSv 7 yX7_vote cX7_vote 4 (some .int) 3 := ⟨_, rfl, rfl, ⟨⟨wd_X7_vote, wz_RX7⟩, by decide, by decide, by decide +kernel⟩, wv_X7_vote, wx_X7_vote⟩
theorem mv_X7_voters : MSv 7 yX7_voters cX7_voters 4 (some .int) 3 := ⟨_, rfl, rfl, ⟨⟨wd_X7_voters, wz_RX7⟩, by decide, by decide, by decide +kernel⟩, wv_X7_voters, wx_X7_voters⟩
theorem mv_X7_weighed : MSv 7 yX7_weighed cX7_weighed 3 (some .int) 2 := ⟨_, rfl, rfl, ⟨⟨wd_X7_weighed, wz_RX7⟩, by decide, by decide, by decide +kernel⟩, wv_X7_weighed, wx_X7_weighed⟩
theorem mv_X8_bestWait : MSv 8 yX8_bestWait cX8_bestWait 8 (some .int) 2 := ⟨_, rfl, rfl, ⟨⟨wd_X8_bestWait, wz_RX8⟩, by decide, by decide, by decide +kernel⟩, wv_X8_bestWait, wx_X8_bestWait⟩
theorem mv_X8_blind : MSv 8 yX8_blind cX8_blind 3 (some .int) 2 := ⟨_, rfl, rfl, ⟨⟨wd_X8_blind, wz_RX8⟩, by decide, by decide, by decide +kernel⟩, wv_X8_blind, wx_X8_blind⟩
theorem mv_X8_clearText : MSv 8 yX8_clearText cX8_clearText 2 (some .int) 0 := ⟨_, rfl, rfl, ⟨⟨wd_X8_clearText, wz_RX8⟩, by decide, by decide, by decide +kernel⟩, wv_X8_clearText, wx_X8_clearText⟩
theorem mv_X8_count : MSv 8 yX8_count cX8_count 2 (some .int) 1 := ⟨_, rfl, rfl, ⟨⟨wd_X8_count, wz_RX8⟩, by decide, by decide, by decide +kernel⟩, wv_X8_count, wx_X8_count⟩
theorem mv_X8_dissent : MSv 8 yX8_dissent cX8_dissent 4 (some .int) 2 := ⟨_, rfl, rfl, ⟨⟨wd_X8_dissent, wz_RX8⟩, by decide, by decide, by decide +kernel⟩, wv_X8_dissent, wx_X8_dissent⟩
theorem mv_X8_edges : MSv 8 yX8_edges cX8_edges 3 (some .int) 2 := ⟨_, rfl, rfl, ⟨⟨wd_X8_edges, wz_RX8⟩, by decide, by decide, by decide +kernel⟩, wv_X8_edges, wx_X8_edges⟩
theorem mv_X8_fault : MSv 8 yX8_fault cX8_fault 2 (some .int) 1 := ⟨_, rfl, rfl, ⟨⟨wd_X8_fault, wz_RX8⟩, by decide, by decide, by decide +kernel⟩, wv_X8_fault, wx_X8_fault⟩
theorem mv_X8_fitting : MSv 8 yX8_fitting cX8_fitting 4 (some .int) 1 := ⟨_, rfl, rfl, ⟨⟨wd_X8_fitting, wz_RX8⟩, by decide, by decide, by decide +kernel⟩, wv_X8_fitting, wx_X8_fitting⟩
theorem mv_X8_forget : MSv 8 yX8_forget cX8_forget 2 (some .int) 1 := ⟨_, rfl, rfl, ⟨⟨wd_X8_forget, wz_RX8⟩, by decide, by decide, by decide +kernel⟩, wv_X8_forget, wx_X8_forget⟩
theorem mv_X8_frameOf : MSv 8 yX8_frameOf cX8_frameOf 5 (some .int) 2 := ⟨_, rfl, rfl, ⟨⟨wd_X8_frameOf, wz_RX8⟩, by decide, by decide, by decide +kernel⟩, wv_X8_frameOf, wx_X8_frameOf⟩
theorem mi_X8_init : MSi 8 yX8_init cX8_init 1 0 := ⟨_, rfl, ⟨⟨wd_X8_init, wz_RX8⟩, by decide, by decide, by decide +kernel⟩, wv_X8_init, rfl⟩
theorem mv_X8_judge : MSv 8 yX8_judge cX8_judge 7 (some .int) 2 := ⟨_, rfl, rfl, ⟨⟨wd_X8_judge, wz_RX8⟩, by decide, by decide, by decide +kernel⟩, wv_X8_judge, wx_X8_judge⟩
theorem mv_X8_motions : MSv 8 yX8_motions cX8_motions 3 (some .int) 2 := ⟨_, rfl, rfl, ⟨⟨wd_X8_motions, wz_RX8⟩, by decide, by decide, by decide +kernel⟩, wv_X8_motions, wx_X8_motions⟩
theorem mv_X8_pass : MSv 8 yX8_pass cX8_pass 2 (some .int) 1 := ⟨_, rfl, rfl, ⟨⟨wd_X8_pass, wz_RX8⟩, by decide, by decide, by decide +kernel⟩, wv_X8_pass, wx_X8_pass⟩
theorem mv_X8_periods : MSv 8 yX8_periods cX8_periods 3 (some .int) 0 := ⟨_, rfl, rfl, ⟨⟨wd_X8_periods, wz_RX8⟩, by decide, by decide, by decide +kernel⟩, wv_X8_periods, wx_X8_periods⟩
theorem mv_X8_pixel : MSv 8 yX8_pixel cX8_pixel 4 (some .int) 3 := ⟨_, rfl, rfl, ⟨⟨wd_X8_pixel, wz_RX8⟩, by decide, by decide, by decide +kernel⟩, wv_X8_pixel, wx_X8_pixel⟩
theorem mv_X8_play : MSv 8 yX8_play cX8_play 2 (some .int) 0 := ⟨_, rfl, rfl, ⟨⟨wd_X8_play, wz_RX8⟩, by decide, by decide, by decide +kernel⟩, wv_X8_play, wx_X8_play⟩
theorem mv_X8_rowOf : MSv 8 yX8_rowOf cX8_rowOf 3 (some .int) 2 := ⟨_, rfl, rfl, ⟨⟨wd_X8_rowOf, wz_RX8⟩, by decide, by decide, by decide +kernel⟩, wv_X8_rowOf, wx_X8_rowOf⟩
theorem mv_X8_set : MSv 8 yX8_set cX8_set 4 (some .int) 2 := ⟨_, rfl, rfl, ⟨⟨wd_X8_set, wz_RX8⟩, by decide, by decide, by decide +kernel⟩, wv_X8_set, wx_X8_set⟩
theorem mv_X8_shift : MSv 8 yX8_shift cX8_shift 4 (some .int) 2 := ⟨_, rfl, rfl, ⟨⟨wd_X8_shift, wz_RX8⟩, by decide, by decide, by decide +kernel⟩, wv_X8_shift, wx_X8_shift⟩
theorem mv_X8_shoot : MSv 8 yX8_shoot cX8_shoot 1 (some .int) 0 := ⟨_, rfl, rfl, ⟨⟨wd_X8_shoot, wz_RX8⟩, by decide, by decide, by decide +kernel⟩, wv_X8_shoot, wx_X8_shoot⟩
theorem mv_X8_shows : MSv 8 yX8_shows cX8_shows 4 (some .int) 3 := ⟨_, rfl, rfl, ⟨⟨wd_X8_shows, wz_RX8⟩, by decide, by decide, by decide +kernel⟩, wv_X8_shows, wx_X8_shows⟩
theorem mv_X8_slant : MSv 8 yX8_slant cX8_slant 3 (some .int) 1 := ⟨_, rfl, rfl, ⟨⟨wd_X8_slant, wz_RX8⟩, by decide, by decide, by decide +kernel⟩, wv_X8_slant, wx_X8_slant⟩
theorem mv_X8_slantSpeed : MSv 8 yX8_slantSpeed cX8_slantSpeed 3 (some .int) 1 := ⟨_, rfl, rfl, ⟨⟨wd_X8_slantSpeed, wz_RX8⟩, by decide, by decide, by decide +kernel⟩, wv_X8_slantSpeed, wx_X8_slantSpeed⟩
theorem mv_X8_speed : MSv 8 yX8_speed cX8_speed 5 (some .int) 2 := ⟨_, rfl, rfl, ⟨⟨wd_X8_speed, wz_RX8⟩, by decide, by decide, by decide +kernel⟩, wv_X8_speed, wx_X8_speed⟩
theorem mv_X8_thing : MSv 8 yX8_thing cX8_thing 7 (some .int) 6 := ⟨_, rfl, rfl, ⟨⟨wd_X8_thing, wz_RX8⟩, by decide, by decide, by decide +kernel⟩, wv_X8_thing, wx_X8_thing⟩
theorem mv_X8_thingOf : MSv 8 yX8_thingOf cX8_thingOf 3 (some .int) 2 := ⟨_, rfl, rfl, ⟨⟨wd_X8_thingOf, wz_RX8⟩, by decide, by decide, by decide +kernel⟩, wv_X8_thingOf, wx_X8_thingOf⟩
theorem mv_X8_turn : MSv 8 yX8_turn cX8_turn 5 (some .int) 2 := ⟨_, rfl, rfl, ⟨⟨wd_X8_turn, wz_RX8⟩, by decide, by decide, by decide +kernel⟩, wv_X8_turn, wx_X8_turn⟩
theorem mv_X8_type : MSv 8 yX8_type cX8_type 2 (some .int) 1 := ⟨_, rfl, rfl, ⟨⟨wd_X8_type, wz_RX8⟩, by decide, by decide, by decide +kernel⟩, wv_X8_type, wx_X8_type⟩
theorem mv_X8_undo : MSv 8 yX8_undo cX8_undo 1 (some .int) 0 := ⟨_, rfl, rfl, ⟨⟨wd_X8_undo, wz_RX8⟩, by decide, by decide, by decide +kernel⟩, wv_X8_undo, wx_X8_undo⟩
theorem mv_X8_vote : MSv 8 yX8_vote cX8_vote 5 (some .int) 3 := ⟨_, rfl, rfl, ⟨⟨wd_X8_vote, wz_RX8⟩, by decide, by decide, by decide +kernel⟩, wv_X8_vote, wx_X8_vote⟩
theorem mv_X8_voters : MSv 8 yX8_voters cX8_voters 4 (some .int) 3 := ⟨_, rfl, rfl, ⟨⟨wd_X8_voters, wz_RX8⟩, by decide, by decide, by decide +kernel⟩, wv_X8_voters, wx_X8_voters⟩
theorem mv_X8_weighed : MSv 8 yX8_weighed cX8_weighed 4 (some .int) 2 := ⟨_, rfl, rfl, ⟨⟨wd_X8_weighed, wz_RX8⟩, by decide, by decide, by decide +kernel⟩, wv_X8_weighed, wx_X8_weighed⟩
-- ===== end of PART A; then your names; then what follows =====
/-! THE CLAIM OUT OF ONE WALK OF THE LAW'S BODY. Your part is whole_start (and what it stands on); all else here is the same for every law, but numbers. -/
def R_law : String := "RowVotesLaw"
def lw_P (b : Addr) (xs : List Int32) (args : Array Value) (s : State) : Prop := args = #[.ref b] ∧ s.IntsAt b xs ∧ xs.length ≤ 3584 ∧ (Jvm.Cond.and given_1 narrow_1).before args s = true
def lw_Q (_ : Array Value) (s : State) (o : Outcome) (t : State) : Prop := o = .returned (some (.int 1)) ∧ Framed s o t [] 600000 7302250
def lw_Z (below : List Frame) (a : Array Value) (s : State) : State → Prop := fun t => ∃ o, t.status = .running ∧ Ended t below o ∧ lw_Q a s o t
/-- the law's own end, with 1 on the stack, nothing written that was there before, its room as the claim has it -/
theorem lw_ret {p : Program} {l : Launch} {e : Env} {s : State} {m : MethodId} {below : List Frame} {meth : Method} {c : Code} {b : Nat} (hx : p.tables.exec = Jvm.exec) (hb : c.code = code) (hr : meth.sig.returnType = ret) (hlocks : meth.locks = false) {pc : Nat} {H : Heap} {ls : Array Slot} (hdg : decode code pc = .ok (.ireturn, 1)) : W p l e room_1 s m #[Value.ref b] below meth c H [] 600000 7302250 (lw_Z below #[Value.ref b] s) (F0 m pc ls [.int 1]) := by
  intro T hT X
  obtain ⟨fs, hret, hrun, hended, hW, hframe⟩ := X.leave (v := some (.int 1)) (hlocks := hlocks) (fun h => by rw [hr] at h; cases h)
  have hmeth' : T.vm.method? m = some meth := X.method'
  refine ⟨T.setFrames fs, ?_, .returned (some (.int 1)), hrun, hended, rfl, ⟨_, rfl⟩, hW, hframe⟩
  jvm_step X.here [X.here.top, hx, hb, hdg, hmeth', hr, ret, narrow_b1]
  (try refine ⟨rfl, ?_⟩); (try refine ⟨rfl, ?_⟩)
  first | (intro acts; rw [hret _ acts rfl rfl rfl]) | rw [hret _ _ rfl rfl rfl]
  exact Steps.refl _
/-- what holds at the law's entry: the machine, the code, the tables' words (any of lw_tbl by 'hts w (by decide +kernel)'), the script of L ints xs at the cell b, what the Statement gives of the start (any of its parts by flat_of_before) -/
def lw_At (p : Program) (s : State) (m : MethodId) (meth : Method) (c : Code) (b L : Nat) (xs : Nat → Int32) : Prop :=
  p.tables.exec = Jvm.exec ∧ c.code = code ∧ meth.sig.returnType = ret ∧ c.maxLocals = 4 ∧ s.vm.findClass R_law = some m.cls ∧ (∀ w ∈ lw_tbl, w.before #[Value.ref b] s = true) ∧ va_X b L xs s s.heap ∧ b < s.heap.size ∧ meth.locks = false ∧ (Jvm.Cond.and given_1 narrow_1).before #[Value.ref b] s = true
section JL
variable {X : CT} {g : GG} {β : Type} {Q : β → State → Prop} {cf : Nat → Nat × Nat} {pc : Nat} {lv : List (Nat × Value)} {st : List Value} {S : St} {o : Option β} {cc : ByteArray} {own : String} {ret' : Option FieldType} {nL : Nat} {R0 : Room} {b L : Nat} {xs : Nat → Int32}
def Ql (X : CT) (b : Addr) (r : Int32) : State → Prop :=
  match X with
  | (_, _, _, _, s, _, _, below, _, _) => if r = 1 then lw_Z below #[Value.ref b] s else fun _ => True
def SX (X : CT) (g : GG) (b L : Nat) (xs : Nat → Int32) : Prop :=
  match X with
  | (_, _, _, R, s, _, args, _, _, _) => va_X b L xs s s.heap ∧ b < s.heap.size ∧ g.1 = s.heap.size ∧ args = #[Value.ref b] ∧ R = room_1
theorem cat_s {b : Nat} {st : List Value} (h : cats st) : cats (.ref b :: st) := fun v hv => by
  rcases List.mem_cons.mp hv with e | e
  · rw [e]; rfl
  · exact h v e
theorem J.sload_n (C : CX X g cc own ret' nL R0) {k : Fin 4} {i : Nat} (hdg : decode cc pc = .ok (.aload_n k, 1)) (hi : (k : Nat) = i) (h : lk lv i = some (.ref b)) (kk : J X g Q cf (pc + 1) lv (.ref b :: st) S o) : J X g Q cf pc lv st S o := by
  obtain ⟨p, l, e, R, s, m, args, below, meth, c⟩ := X
  obtain ⟨hx, hb, hml, hown, hr, hlk, hK, hR, hg⟩ := C
  intro b hb0 H locs ls hP hS hl
  exact lv_aload_n hx hb hdg hi (hl.at h) (kk b hb0 H locs ls hP hS hl)
theorem J.sld (C : CX X g cc own ret' nL R0) (hX : SX X g b L xs) {i : Int32} (hdg : decode cc pc = .ok (.iaload, 1)) (kk : J X g Q cf (pc + 1) lv (.int (xs i.toNatClampNeg) :: st) S o) : J X g Q cf pc lv (.int i :: .ref b :: st) S (chk (0 ≤ i ∧ i.toNatClampNeg < L) o) := by
  obtain ⟨p, l, e, R, s, m, args, below, meth, c⟩ := X
  obtain ⟨hx, hb, hml, hown, hr, hlk, hK, hR, hg⟩ := C
  obtain ⟨x1, x2, x3, x4, x5⟩ := hX
  intro b hb0 H locs ls hP hS hl
  obtain ⟨⟨i0, i1⟩, hb1⟩ := chk_some hb0
  refine va_sld hx hb x1 x2 (by show ¬ g.1 ≤ _; omega) hS ?_ hdg (kk b hb1 H locs ls hP hS hl)
  exact ina_not i0 i1 (Nat.le_refl _)
theorem J.slen (C : CX X g cc own ret' nL R0) (hX : SX X g b L xs) (hdg : decode cc pc = .ok (.arraylength, 1)) (kk : J X g Q cf (pc + 1) lv (.int (Int32.ofNat L) :: st) S o) : J X g Q cf pc lv (.ref b :: st) S o := by
  obtain ⟨p, l, e, R, s, m, args, below, meth, c⟩ := X
  obtain ⟨hx, hb, hml, hown, hr, hlk, hK, hR, hg⟩ := C
  obtain ⟨x1, x2, x3, x4, x5⟩ := hX
  intro b hb0 H locs ls hP hS hl
  exact va_slen hx hb x1 x2 (by show ¬ g.1 ≤ _; omega) hS hdg (kk b hb0 H locs ls hP hS hl)
theorem J.lret1 (C : CX X g code own ret 4 R0) (hX : SX X g b L xs) (hc : (cf S.2.2).1 ≤ 600000 ∧ (cf S.2.2).2 ≤ 7302250) (hdg : decode code pc = .ok (.ireturn, 1)) : J X g (Ql X b) cf pc lv [.int 1] S (some 1) := by
  obtain ⟨p, l, e, R, s, m, args, below, meth, c⟩ := X
  obtain ⟨hx, hb, hml, hown, hr, hlk, hK, hR, hg⟩ := C
  obtain ⟨x1, x2, x3, x4, x5⟩ := hX
  intro b' hb0 H locs ls hP hS hl
  cases hb0
  subst x4
  subst x5
  refine W.widen hc.1 hc.2 ?_
  refine va_forget (fun q hq => by rw [← x3]; exact hS.2.2 q hq) ?_
  have k := lw_ret (p := p) (l := l) (e := e) (s := s) (m := m) (below := below) (meth := meth) (c := c) (b := b) (H := H) (ls := ls) hx hb hr hlk hdg
  exact k
theorem J.lret0 : J X g (Ql X b) cf pc lv st S (some 0) := by
  obtain ⟨p, l, e, R, s, m, args, below, meth, c⟩ := X
  intro b' hb0 H locs ls hP hS hl
  cases hb0
  intro T hT Xs
  exact ⟨_, Steps.refl _, trivial⟩
theorem J.toCw {w : Nat × Nat} (n : Nat) (hn : (cf n).1 ≤ w.1 ∧ (cf n).2 ≤ w.2) (kk : J X g Q (cw w) pc lv st S o) : J X g Q cf pc lv st S (chk (S.2.2 = n) o) := by
  refine J.ck (fun h => ?_)
  obtain ⟨p, l, e, R, s, m, args, below, meth, c⟩ := X
  intro b' hb0 H locs ls hP hS hl
  rw [h]
  exact W.widen hn.1 hn.2 (kk b' hb0 H locs ls hP hS hl)
end JL
