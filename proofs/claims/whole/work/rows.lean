section
-- ===== PART A: goes FIRST, ahead of the names: the tables' words, and 'selects' of the private methods out of them =====
/-- a private method of a class that the tables say can be made, by its rows of tables_1 -/
def lw_okq (q : MethodName × Nat) : Prop := (q.1.cls ≠ "java/lang/invoke/MethodHandle" ∧ q.1.cls ≠ "java/lang/invoke/VarHandle") ∧ Cond.instantiable q.1.cls q.2 ∈ tables_1 ∧ Cond.privateMethod q.1 ∈ tables_1 ∧ Cond.instanceMethod q.1 ∈ tables_1
theorem lw_p0 : lw_okq (⟨"RowVotes", "recordState", "()V"⟩, 8) := ⟨⟨by decide +kernel, by decide +kernel⟩, List.mem_of_getElem? (i := 13) (by decide +kernel), List.mem_of_getElem? (i := 301) (by decide +kernel), List.mem_of_getElem? (i := 302) (by decide +kernel)⟩
theorem lw_p1 : lw_okq (⟨"RowVotes$Scene", "becomeInThings", "(LRowVotes$Scene;)V"⟩, 10) := ⟨⟨by decide +kernel, by decide +kernel⟩, List.mem_of_getElem? (i := 21) (by decide +kernel), List.mem_of_getElem? (i := 309) (by decide +kernel), List.mem_of_getElem? (i := 310) (by decide +kernel)⟩
theorem lw_p2 : lw_okq (⟨"RowVotes$Scene", "becomeInFrames", "(LRowVotes$Scene;)V"⟩, 10) := ⟨⟨by decide +kernel, by decide +kernel⟩, List.mem_of_getElem? (i := 21) (by decide +kernel), List.mem_of_getElem? (i := 321) (by decide +kernel), List.mem_of_getElem? (i := 322) (by decide +kernel)⟩
theorem lw_p3 : lw_okq (⟨"RowVotes", "isPlace", "(II)Z"⟩, 8) := ⟨⟨by decide +kernel, by decide +kernel⟩, List.mem_of_getElem? (i := 13) (by decide +kernel), List.mem_of_getElem? (i := 392) (by decide +kernel), List.mem_of_getElem? (i := 393) (by decide +kernel)⟩
theorem lw_p4 : lw_okq (⟨"RowVotes$Scene", "paintOver", "([III)V"⟩, 10) := ⟨⟨by decide +kernel, by decide +kernel⟩, List.mem_of_getElem? (i := 21) (by decide +kernel), List.mem_of_getElem? (i := 418) (by decide +kernel), List.mem_of_getElem? (i := 419) (by decide +kernel)⟩
theorem lw_p5 : lw_okq (⟨"RowVotes", "edgeCountOf", "(LRowVotes$Frame;)I"⟩, 8) := ⟨⟨by decide +kernel, by decide +kernel⟩, List.mem_of_getElem? (i := 13) (by decide +kernel), List.mem_of_getElem? (i := 470) (by decide +kernel), List.mem_of_getElem? (i := 471) (by decide +kernel)⟩
theorem lw_p6 : lw_okq (⟨"RowVotes", "isPair", "(II)Z"⟩, 8) := ⟨⟨by decide +kernel, by decide +kernel⟩, List.mem_of_getElem? (i := 13) (by decide +kernel), List.mem_of_getElem? (i := 504) (by decide +kernel), List.mem_of_getElem? (i := 505) (by decide +kernel)⟩
theorem lw_p7 : lw_okq (⟨"RowVotes", "voteOn", "(II)V"⟩, 8) := ⟨⟨by decide +kernel, by decide +kernel⟩, List.mem_of_getElem? (i := 13) (by decide +kernel), List.mem_of_getElem? (i := 508) (by decide +kernel), List.mem_of_getElem? (i := 509) (by decide +kernel)⟩
theorem lw_p8 : lw_okq (⟨"RowVotes$Voting", "readEdges", "(LRowVotes$Scene;LRowVotes$Frame;[I)V"⟩, 4) := ⟨⟨by decide +kernel, by decide +kernel⟩, List.mem_of_getElem? (i := 201) (by decide +kernel), List.mem_of_getElem? (i := 516) (by decide +kernel), List.mem_of_getElem? (i := 517) (by decide +kernel)⟩
theorem lw_p9 : lw_okq (⟨"RowVotes$Voting", "countVotes", "(LRowVotes$Scene;)V"⟩, 4) := ⟨⟨by decide +kernel, by decide +kernel⟩, List.mem_of_getElem? (i := 201) (by decide +kernel), List.mem_of_getElem? (i := 534) (by decide +kernel), List.mem_of_getElem? (i := 535) (by decide +kernel)⟩
theorem lw_p10 : lw_okq (⟨"RowVotes$MotionSearch", "gatherDemands", "(LRowVotes$Scene;I)V"⟩, 11) := ⟨⟨by decide +kernel, by decide +kernel⟩, List.mem_of_getElem? (i := 220) (by decide +kernel), List.mem_of_getElem? (i := 631) (by decide +kernel), List.mem_of_getElem? (i := 632) (by decide +kernel)⟩
theorem lw_p11 : lw_okq (⟨"RowVotes$MotionSearch", "addDemand", "(LRowVotes$Scene;ILRowVotes$Frame;I)V"⟩, 11) := ⟨⟨by decide +kernel, by decide +kernel⟩, List.mem_of_getElem? (i := 220) (by decide +kernel), List.mem_of_getElem? (i := 638) (by decide +kernel), List.mem_of_getElem? (i := 639) (by decide +kernel)⟩
theorem lw_p12 : lw_okq (⟨"RowVotes$MotionSearch", "meetsDemands", "(III)Z"⟩, 11) := ⟨⟨by decide +kernel, by decide +kernel⟩, List.mem_of_getElem? (i := 220) (by decide +kernel), List.mem_of_getElem? (i := 649) (by decide +kernel), List.mem_of_getElem? (i := 650) (by decide +kernel)⟩
theorem lw_p13 : lw_okq (⟨"RowVotes$MotionSearch", "keepMotion", "(II)V"⟩, 11) := ⟨⟨by decide +kernel, by decide +kernel⟩, List.mem_of_getElem? (i := 220) (by decide +kernel), List.mem_of_getElem? (i := 654) (by decide +kernel), List.mem_of_getElem? (i := 655) (by decide +kernel)⟩
theorem lw_p14 : lw_okq (⟨"RowVotes", "periodsFitting", "(LRowVotes$Frame;)I"⟩, 8) := ⟨⟨by decide +kernel, by decide +kernel⟩, List.mem_of_getElem? (i := 13) (by decide +kernel), List.mem_of_getElem? (i := 671) (by decide +kernel), List.mem_of_getElem? (i := 672) (by decide +kernel)⟩
theorem lw_p15 : lw_okq (⟨"RowVotes", "darkPeriods", "(I)I"⟩, 8) := ⟨⟨by decide +kernel, by decide +kernel⟩, List.mem_of_getElem? (i := 13) (by decide +kernel), List.mem_of_getElem? (i := 676) (by decide +kernel), List.mem_of_getElem? (i := 677) (by decide +kernel)⟩
def lw_privs_1 : List (MethodName × Nat) := [(⟨"RowVotes", "recordState", "()V"⟩, 8), (⟨"RowVotes$Scene", "becomeInThings", "(LRowVotes$Scene;)V"⟩, 10), (⟨"RowVotes$Scene", "becomeInFrames", "(LRowVotes$Scene;)V"⟩, 10), (⟨"RowVotes", "isPlace", "(II)Z"⟩, 8), (⟨"RowVotes$Scene", "paintOver", "([III)V"⟩, 10), (⟨"RowVotes", "edgeCountOf", "(LRowVotes$Frame;)I"⟩, 8), (⟨"RowVotes", "isPair", "(II)Z"⟩, 8), (⟨"RowVotes", "voteOn", "(II)V"⟩, 8), (⟨"RowVotes$Voting", "readEdges", "(LRowVotes$Scene;LRowVotes$Frame;[I)V"⟩, 4), (⟨"RowVotes$Voting", "countVotes", "(LRowVotes$Scene;)V"⟩, 4), (⟨"RowVotes$MotionSearch", "gatherDemands", "(LRowVotes$Scene;I)V"⟩, 11), (⟨"RowVotes$MotionSearch", "addDemand", "(LRowVotes$Scene;ILRowVotes$Frame;I)V"⟩, 11), (⟨"RowVotes$MotionSearch", "meetsDemands", "(III)Z"⟩, 11), (⟨"RowVotes$MotionSearch", "keepMotion", "(II)V"⟩, 11), (⟨"RowVotes", "periodsFitting", "(LRowVotes$Frame;)I"⟩, 8), (⟨"RowVotes", "darkPeriods", "(I)I"⟩, 8)]
theorem lw_r1 : ∀ q ∈ lw_privs_1, lw_okq q := List.forall_mem_cons.mpr ⟨lw_p0, List.forall_mem_cons.mpr ⟨lw_p1, List.forall_mem_cons.mpr ⟨lw_p2, List.forall_mem_cons.mpr ⟨lw_p3, List.forall_mem_cons.mpr ⟨lw_p4, List.forall_mem_cons.mpr ⟨lw_p5, List.forall_mem_cons.mpr ⟨lw_p6, List.forall_mem_cons.mpr ⟨lw_p7, List.forall_mem_cons.mpr ⟨lw_p8, List.forall_mem_cons.mpr ⟨lw_p9, List.forall_mem_cons.mpr ⟨lw_p10, List.forall_mem_cons.mpr ⟨lw_p11, List.forall_mem_cons.mpr ⟨lw_p12, List.forall_mem_cons.mpr ⟨lw_p13, List.forall_mem_cons.mpr ⟨lw_p14, List.forall_mem_cons.mpr ⟨lw_p15, fun _ h => absurd h List.not_mem_nil⟩⟩⟩⟩⟩⟩⟩⟩⟩⟩⟩⟩⟩⟩⟩⟩
theorem lw_p16 : lw_okq (⟨"RowVotes", "rowFits", "(LRowVotes$Frame;II)Z"⟩, 8) := ⟨⟨by decide +kernel, by decide +kernel⟩, List.mem_of_getElem? (i := 13) (by decide +kernel), List.mem_of_getElem? (i := 681) (by decide +kernel), List.mem_of_getElem? (i := 682) (by decide +kernel)⟩
theorem lw_p17 : lw_okq (⟨"RowVotes$Order", "readSign", "(LRowVotes$Script;C)V"⟩, 4) := ⟨⟨by decide +kernel, by decide +kernel⟩, List.mem_of_getElem? (i := 140) (by decide +kernel), List.mem_of_getElem? (i := 728) (by decide +kernel), List.mem_of_getElem? (i := 729) (by decide +kernel)⟩
theorem lw_p18 : lw_okq (⟨"RowVotes$Order", "readNumber", "(LRowVotes$Script;I)V"⟩, 4) := ⟨⟨by decide +kernel, by decide +kernel⟩, List.mem_of_getElem? (i := 140) (by decide +kernel), List.mem_of_getElem? (i := 732) (by decide +kernel), List.mem_of_getElem? (i := 733) (by decide +kernel)⟩
theorem lw_p19 : lw_okq (⟨"RowVotes$Script", "examineOrder", "()V"⟩, 10) := ⟨⟨by decide +kernel, by decide +kernel⟩, List.mem_of_getElem? (i := 134) (by decide +kernel), List.mem_of_getElem? (i := 739) (by decide +kernel), List.mem_of_getElem? (i := 740) (by decide +kernel)⟩
theorem lw_p20 : lw_okq (⟨"RowVotes$Script", "isPossibleThen", "()Z"⟩, 10) := ⟨⟨by decide +kernel, by decide +kernel⟩, List.mem_of_getElem? (i := 134) (by decide +kernel), List.mem_of_getElem? (i := 754) (by decide +kernel), List.mem_of_getElem? (i := 755) (by decide +kernel)⟩
theorem lw_p21 : lw_okq (⟨"RowVotesModel", "notes", "()V"⟩, 18) := ⟨⟨by decide +kernel, by decide +kernel⟩, List.mem_of_getElem? (i := 771) (by decide +kernel), List.mem_of_getElem? (i := 844) (by decide +kernel), List.mem_of_getElem? (i := 845) (by decide +kernel)⟩
theorem lw_p22 : lw_okq (⟨"RowVotesModel", "isThing", "(I)Z"⟩, 18) := ⟨⟨by decide +kernel, by decide +kernel⟩, List.mem_of_getElem? (i := 771) (by decide +kernel), List.mem_of_getElem? (i := 867) (by decide +kernel), List.mem_of_getElem? (i := 868) (by decide +kernel)⟩
theorem lw_p23 : lw_okq (⟨"RowVotesModel", "isRow", "(I)Z"⟩, 18) := ⟨⟨by decide +kernel, by decide +kernel⟩, List.mem_of_getElem? (i := 771) (by decide +kernel), List.mem_of_getElem? (i := 889) (by decide +kernel), List.mem_of_getElem? (i := 890) (by decide +kernel)⟩
theorem lw_p24 : lw_okq (⟨"RowVotesModel", "isColumn", "(I)Z"⟩, 18) := ⟨⟨by decide +kernel, by decide +kernel⟩, List.mem_of_getElem? (i := 771) (by decide +kernel), List.mem_of_getElem? (i := 893) (by decide +kernel), List.mem_of_getElem? (i := 894) (by decide +kernel)⟩
theorem lw_p25 : lw_okq (⟨"RowVotesModel", "isFrame", "(I)Z"⟩, 18) := ⟨⟨by decide +kernel, by decide +kernel⟩, List.mem_of_getElem? (i := 771) (by decide +kernel), List.mem_of_getElem? (i := 920) (by decide +kernel), List.mem_of_getElem? (i := 921) (by decide +kernel)⟩
theorem lw_p26 : lw_okq (⟨"RowVotesModel", "frameValue", "(II)I"⟩, 18) := ⟨⟨by decide +kernel, by decide +kernel⟩, List.mem_of_getElem? (i := 771) (by decide +kernel), List.mem_of_getElem? (i := 928) (by decide +kernel), List.mem_of_getElem? (i := 929) (by decide +kernel)⟩
theorem lw_p27 : lw_okq (⟨"RowVotesModel", "edgesIn", "(II)I"⟩, 18) := ⟨⟨by decide +kernel, by decide +kernel⟩, List.mem_of_getElem? (i := 771) (by decide +kernel), List.mem_of_getElem? (i := 932) (by decide +kernel), List.mem_of_getElem? (i := 933) (by decide +kernel)⟩
theorem lw_p28 : lw_okq (⟨"RowVotesModel", "isEdge", "(III)Z"⟩, 18) := ⟨⟨by decide +kernel, by decide +kernel⟩, List.mem_of_getElem? (i := 771) (by decide +kernel), List.mem_of_getElem? (i := 936) (by decide +kernel), List.mem_of_getElem? (i := 937) (by decide +kernel)⟩
theorem lw_p29 : lw_okq (⟨"RowVotesModel", "isSeen", "(II)Z"⟩, 18) := ⟨⟨by decide +kernel, by decide +kernel⟩, List.mem_of_getElem? (i := 771) (by decide +kernel), List.mem_of_getElem? (i := 940) (by decide +kernel), List.mem_of_getElem? (i := 941) (by decide +kernel)⟩
theorem lw_p30 : lw_okq (⟨"RowVotesModel", "pixelOf", "(III)I"⟩, 18) := ⟨⟨by decide +kernel, by decide +kernel⟩, List.mem_of_getElem? (i := 771) (by decide +kernel), List.mem_of_getElem? (i := 947) (by decide +kernel), List.mem_of_getElem? (i := 948) (by decide +kernel)⟩
theorem lw_p31 : lw_okq (⟨"RowVotesModel", "areFrames", "(II)Z"⟩, 18) := ⟨⟨by decide +kernel, by decide +kernel⟩, List.mem_of_getElem? (i := 771) (by decide +kernel), List.mem_of_getElem? (i := 968) (by decide +kernel), List.mem_of_getElem? (i := 969) (by decide +kernel)⟩
def lw_privs_2 : List (MethodName × Nat) := [(⟨"RowVotes", "rowFits", "(LRowVotes$Frame;II)Z"⟩, 8), (⟨"RowVotes$Order", "readSign", "(LRowVotes$Script;C)V"⟩, 4), (⟨"RowVotes$Order", "readNumber", "(LRowVotes$Script;I)V"⟩, 4), (⟨"RowVotes$Script", "examineOrder", "()V"⟩, 10), (⟨"RowVotes$Script", "isPossibleThen", "()Z"⟩, 10), (⟨"RowVotesModel", "notes", "()V"⟩, 18), (⟨"RowVotesModel", "isThing", "(I)Z"⟩, 18), (⟨"RowVotesModel", "isRow", "(I)Z"⟩, 18), (⟨"RowVotesModel", "isColumn", "(I)Z"⟩, 18), (⟨"RowVotesModel", "isFrame", "(I)Z"⟩, 18), (⟨"RowVotesModel", "frameValue", "(II)I"⟩, 18), (⟨"RowVotesModel", "edgesIn", "(II)I"⟩, 18), (⟨"RowVotesModel", "isEdge", "(III)Z"⟩, 18), (⟨"RowVotesModel", "isSeen", "(II)Z"⟩, 18), (⟨"RowVotesModel", "pixelOf", "(III)I"⟩, 18), (⟨"RowVotesModel", "areFrames", "(II)Z"⟩, 18)]
theorem lw_r2 : ∀ q ∈ lw_privs_2, lw_okq q := List.forall_mem_cons.mpr ⟨lw_p16, List.forall_mem_cons.mpr ⟨lw_p17, List.forall_mem_cons.mpr ⟨lw_p18, List.forall_mem_cons.mpr ⟨lw_p19, List.forall_mem_cons.mpr ⟨lw_p20, List.forall_mem_cons.mpr ⟨lw_p21, List.forall_mem_cons.mpr ⟨lw_p22, List.forall_mem_cons.mpr ⟨lw_p23, List.forall_mem_cons.mpr ⟨lw_p24, List.forall_mem_cons.mpr ⟨lw_p25, List.forall_mem_cons.mpr ⟨lw_p26, List.forall_mem_cons.mpr ⟨lw_p27, List.forall_mem_cons.mpr ⟨lw_p28, List.forall_mem_cons.mpr ⟨lw_p29, List.forall_mem_cons.mpr ⟨lw_p30, List.forall_mem_cons.mpr ⟨lw_p31, fun _ h => absurd h List.not_mem_nil⟩⟩⟩⟩⟩⟩⟩⟩⟩⟩⟩⟩⟩⟩⟩⟩
theorem lw_p32 : lw_okq (⟨"RowVotesModel", "voteOf", "(III)I"⟩, 18) := ⟨⟨by decide +kernel, by decide +kernel⟩, List.mem_of_getElem? (i := 771) (by decide +kernel), List.mem_of_getElem? (i := 972) (by decide +kernel), List.mem_of_getElem? (i := 973) (by decide +kernel)⟩
theorem lw_p33 : lw_okq (⟨"RowVotesModel", "toldBy", "(IIZ)I"⟩, 18) := ⟨⟨by decide +kernel, by decide +kernel⟩, List.mem_of_getElem? (i := 771) (by decide +kernel), List.mem_of_getElem? (i := 989) (by decide +kernel), List.mem_of_getElem? (i := 990) (by decide +kernel)⟩
theorem lw_p34 : lw_okq (⟨"RowVotesModel", "noVotes", "()V"⟩, 18) := ⟨⟨by decide +kernel, by decide +kernel⟩, List.mem_of_getElem? (i := 771) (by decide +kernel), List.mem_of_getElem? (i := 993) (by decide +kernel), List.mem_of_getElem? (i := 994) (by decide +kernel)⟩
theorem lw_p35 : lw_okq (⟨"RowVotesModel", "weightOf", "(I)I"⟩, 18) := ⟨⟨by decide +kernel, by decide +kernel⟩, List.mem_of_getElem? (i := 771) (by decide +kernel), List.mem_of_getElem? (i := 997) (by decide +kernel), List.mem_of_getElem? (i := 998) (by decide +kernel)⟩
theorem lw_p36 : lw_okq (⟨"RowVotesModel", "counts", "(II)V"⟩, 18) := ⟨⟨by decide +kernel, by decide +kernel⟩, List.mem_of_getElem? (i := 771) (by decide +kernel), List.mem_of_getElem? (i := 1001) (by decide +kernel), List.mem_of_getElem? (i := 1002) (by decide +kernel)⟩
theorem lw_p37 : lw_okq (⟨"RowVotesModel", "mostVoted", "()I"⟩, 18) := ⟨⟨by decide +kernel, by decide +kernel⟩, List.mem_of_getElem? (i := 771) (by decide +kernel), List.mem_of_getElem? (i := 1005) (by decide +kernel), List.mem_of_getElem? (i := 1006) (by decide +kernel)⟩
theorem lw_p38 : lw_okq (⟨"RowVotesModel", "votersOf", "(IIIZ)I"⟩, 18) := ⟨⟨by decide +kernel, by decide +kernel⟩, List.mem_of_getElem? (i := 771) (by decide +kernel), List.mem_of_getElem? (i := 1013) (by decide +kernel), List.mem_of_getElem? (i := 1014) (by decide +kernel)⟩
theorem lw_p39 : lw_okq (⟨"RowVotesModel", "slantOf", "(I)I"⟩, 18) := ⟨⟨by decide +kernel, by decide +kernel⟩, List.mem_of_getElem? (i := 771) (by decide +kernel), List.mem_of_getElem? (i := 1029) (by decide +kernel), List.mem_of_getElem? (i := 1030) (by decide +kernel)⟩
theorem lw_p40 : lw_okq (⟨"RowVotesModel", "edgesAt", "(II)I"⟩, 18) := ⟨⟨by decide +kernel, by decide +kernel⟩, List.mem_of_getElem? (i := 771) (by decide +kernel), List.mem_of_getElem? (i := 1053) (by decide +kernel), List.mem_of_getElem? (i := 1054) (by decide +kernel)⟩
theorem lw_p41 : lw_okq (⟨"RowVotesModel", "tries", "(I)V"⟩, 18) := ⟨⟨by decide +kernel, by decide +kernel⟩, List.mem_of_getElem? (i := 771) (by decide +kernel), List.mem_of_getElem? (i := 1061) (by decide +kernel), List.mem_of_getElem? (i := 1062) (by decide +kernel)⟩
theorem lw_p42 : lw_okq (⟨"RowVotesModel", "allFit", "([I)Z"⟩, 18) := ⟨⟨by decide +kernel, by decide +kernel⟩, List.mem_of_getElem? (i := 771) (by decide +kernel), List.mem_of_getElem? (i := 1065) (by decide +kernel), List.mem_of_getElem? (i := 1066) (by decide +kernel)⟩
theorem lw_p43 : lw_okq (⟨"RowVotesModel", "rowFits", "([III)Z"⟩, 18) := ⟨⟨by decide +kernel, by decide +kernel⟩, List.mem_of_getElem? (i := 771) (by decide +kernel), List.mem_of_getElem? (i := 1069) (by decide +kernel), List.mem_of_getElem? (i := 1070) (by decide +kernel)⟩
theorem lw_p44 : lw_okq (⟨"RowVotesModel", "done", "()I"⟩, 18) := ⟨⟨by decide +kernel, by decide +kernel⟩, List.mem_of_getElem? (i := 771) (by decide +kernel), List.mem_of_getElem? (i := 1101) (by decide +kernel), List.mem_of_getElem? (i := 1102) (by decide +kernel)⟩
theorem lw_p45 : lw_okq (⟨"RowVotesModel", "faults", "(III)V"⟩, 18) := ⟨⟨by decide +kernel, by decide +kernel⟩, List.mem_of_getElem? (i := 771) (by decide +kernel), List.mem_of_getElem? (i := 1105) (by decide +kernel), List.mem_of_getElem? (i := 1106) (by decide +kernel)⟩
theorem lw_p46 : lw_okq (⟨"RowVotesModel", "form", "()I"⟩, 18) := ⟨⟨by decide +kernel, by decide +kernel⟩, List.mem_of_getElem? (i := 771) (by decide +kernel), List.mem_of_getElem? (i := 1109) (by decide +kernel), List.mem_of_getElem? (i := 1110) (by decide +kernel)⟩
theorem lw_p47 : lw_okq (⟨"RowVotesModel", "look", "()I"⟩, 18) := ⟨⟨by decide +kernel, by decide +kernel⟩, List.mem_of_getElem? (i := 771) (by decide +kernel), List.mem_of_getElem? (i := 1113) (by decide +kernel), List.mem_of_getElem? (i := 1114) (by decide +kernel)⟩
def lw_privs_3 : List (MethodName × Nat) := [(⟨"RowVotesModel", "voteOf", "(III)I"⟩, 18), (⟨"RowVotesModel", "toldBy", "(IIZ)I"⟩, 18), (⟨"RowVotesModel", "noVotes", "()V"⟩, 18), (⟨"RowVotesModel", "weightOf", "(I)I"⟩, 18), (⟨"RowVotesModel", "counts", "(II)V"⟩, 18), (⟨"RowVotesModel", "mostVoted", "()I"⟩, 18), (⟨"RowVotesModel", "votersOf", "(IIIZ)I"⟩, 18), (⟨"RowVotesModel", "slantOf", "(I)I"⟩, 18), (⟨"RowVotesModel", "edgesAt", "(II)I"⟩, 18), (⟨"RowVotesModel", "tries", "(I)V"⟩, 18), (⟨"RowVotesModel", "allFit", "([I)Z"⟩, 18), (⟨"RowVotesModel", "rowFits", "([III)Z"⟩, 18), (⟨"RowVotesModel", "done", "()I"⟩, 18), (⟨"RowVotesModel", "faults", "(III)V"⟩, 18), (⟨"RowVotesModel", "form", "()I"⟩, 18), (⟨"RowVotesModel", "look", "()I"⟩, 18)]
theorem lw_r3 : ∀ q ∈ lw_privs_3, lw_okq q := List.forall_mem_cons.mpr ⟨lw_p32, List.forall_mem_cons.mpr ⟨lw_p33, List.forall_mem_cons.mpr ⟨lw_p34, List.forall_mem_cons.mpr ⟨lw_p35, List.forall_mem_cons.mpr ⟨lw_p36, List.forall_mem_cons.mpr ⟨lw_p37, List.forall_mem_cons.mpr ⟨lw_p38, List.forall_mem_cons.mpr ⟨lw_p39, List.forall_mem_cons.mpr ⟨lw_p40, List.forall_mem_cons.mpr ⟨lw_p41, List.forall_mem_cons.mpr ⟨lw_p42, List.forall_mem_cons.mpr ⟨lw_p43, List.forall_mem_cons.mpr ⟨lw_p44, List.forall_mem_cons.mpr ⟨lw_p45, List.forall_mem_cons.mpr ⟨lw_p46, List.forall_mem_cons.mpr ⟨lw_p47, fun _ h => absurd h List.not_mem_nil⟩⟩⟩⟩⟩⟩⟩⟩⟩⟩⟩⟩⟩⟩⟩⟩
theorem lw_p48 : lw_okq (⟨"RowVotesModel", "number", "(I)V"⟩, 18) := ⟨⟨by decide +kernel, by decide +kernel⟩, List.mem_of_getElem? (i := 771) (by decide +kernel), List.mem_of_getElem? (i := 1117) (by decide +kernel), List.mem_of_getElem? (i := 1118) (by decide +kernel)⟩
theorem lw_p49 : lw_okq (⟨"RowVotesModel", "sign", "(I)V"⟩, 18) := ⟨⟨by decide +kernel, by decide +kernel⟩, List.mem_of_getElem? (i := 771) (by decide +kernel), List.mem_of_getElem? (i := 1121) (by decide +kernel), List.mem_of_getElem? (i := 1122) (by decide +kernel)⟩
theorem lw_p50 : lw_okq (⟨"RowVotesModel", "wrongIn", "(I)I"⟩, 18) := ⟨⟨by decide +kernel, by decide +kernel⟩, List.mem_of_getElem? (i := 771) (by decide +kernel), List.mem_of_getElem? (i := 1125) (by decide +kernel), List.mem_of_getElem? (i := 1126) (by decide +kernel)⟩
theorem lw_p51 : lw_okq (⟨"RowVotesModel", "does", "([II)V"⟩, 18) := ⟨⟨by decide +kernel, by decide +kernel⟩, List.mem_of_getElem? (i := 771) (by decide +kernel), List.mem_of_getElem? (i := 1132) (by decide +kernel), List.mem_of_getElem? (i := 1133) (by decide +kernel)⟩
def lw_privs_4 : List (MethodName × Nat) := [(⟨"RowVotesModel", "number", "(I)V"⟩, 18), (⟨"RowVotesModel", "sign", "(I)V"⟩, 18), (⟨"RowVotesModel", "wrongIn", "(I)I"⟩, 18), (⟨"RowVotesModel", "does", "([II)V"⟩, 18)]
theorem lw_r4 : ∀ q ∈ lw_privs_4, lw_okq q := List.forall_mem_cons.mpr ⟨lw_p48, List.forall_mem_cons.mpr ⟨lw_p49, List.forall_mem_cons.mpr ⟨lw_p50, List.forall_mem_cons.mpr ⟨lw_p51, fun _ h => absurd h List.not_mem_nil⟩⟩⟩⟩
def lw_privs : List (MethodName × Nat) := lw_privs_1 ++ (lw_privs_2 ++ (lw_privs_3 ++ (lw_privs_4)))
def lw_tbl : List Cond := k2_sels lw_privs ++ tables_1
theorem lw_privs_ok : ∀ q ∈ lw_privs, lw_okq q := by
  show ∀ q ∈ lw_privs_1 ++ (lw_privs_2 ++ (lw_privs_3 ++ (lw_privs_4))), lw_okq q
  exact List.forall_mem_append.mpr ⟨lw_r1, List.forall_mem_append.mpr ⟨lw_r2, List.forall_mem_append.mpr ⟨lw_r3, lw_r4⟩⟩⟩
end
section
def RX0 : String := "RowVotes$Frame"
def TX0 : u_T := fun k => match k with
  | 0 => ("RowVotes$Frame", "time", "I", false)
  | 1 => ("RowVotes$Frame", "blinded", "I", false)
  | _ => ("RowVotes$Frame", "pixels", "[I", true)
def tyX0 : Nat → FieldType := fun k => match k with
  | 0 => .int
  | 1 => .int
  | _ => .array .int
abbrev wsX00 : List Cond := u_ws RX0 TX0 3
theorem nmX0 : ∀ a, a < 3 → ∀ b, b < 3 → a ≠ b → (TX0 a).2.1 ≠ (TX0 b).2.1 := by decide +kernel
theorem tyX0_ok : ∀ k, k < 3 → parseFieldDescriptor (TX0 k).2.2.1 = some (tyX0 k) := by decide +kernel
abbrev cX0_init : ByteArray := prog_2_method_1_code
def yX0_init : MethodName := ⟨RX0, "<init>", "()V"⟩
abbrev cX0_become : ByteArray := prog_2_method_2_code
def yX0_become : MethodName := ⟨RX0, "become", "(LRowVotes$Frame;)V"⟩
abbrev cX0_pixelAt : ByteArray := prog_2_method_3_code
def yX0_pixelAt : MethodName := ⟨RX0, "pixelAt", "(II)I"⟩
abbrev cX0_keepRow : ByteArray := prog_2_method_4_code
def yX0_keepRow : MethodName := ⟨RX0, "keepRow", "(I[II)V"⟩
def RX1 : String := "RowVotes$MotionSearch"
def TX1 : u_T := fun k => match k with
  | 0 => ("RowVotes$MotionSearch", "times", "[I", true)
  | 1 => ("RowVotes$MotionSearch", "needed", "[I", true)
  | 2 => ("RowVotes$MotionSearch", "barred", "[I", true)
  | 3 => ("RowVotes$MotionSearch", "demands", "I", false)
  | 4 => ("RowVotes$MotionSearch", "lineWithout", "[I", true)
  | 5 => ("RowVotes$MotionSearch", "lineWith", "[I", true)
  | 6 => ("RowVotes$MotionSearch", "found", "I", false)
  | 7 => ("RowVotes$MotionSearch", "firstPosition", "I", false)
  | 8 => ("RowVotes$MotionSearch", "firstSpeed", "I", false)
  | 9 => ("RowVotes$MotionSearch", "lastPosition", "I", false)
  | _ => ("RowVotes$MotionSearch", "lastSpeed", "I", false)
def tyX1 : Nat → FieldType := fun k => match k with
  | 0 => .array .int
  | 1 => .array .int
  | 2 => .array .int
  | 3 => .int
  | 4 => .array .int
  | 5 => .array .int
  | 6 => .int
  | 7 => .int
  | 8 => .int
  | 9 => .int
  | _ => .int
abbrev wsX10 : List Cond := u_ws RX1 TX1 11
theorem nmX1 : ∀ a, a < 11 → ∀ b, b < 11 → a ≠ b → (TX1 a).2.1 ≠ (TX1 b).2.1 := by decide +kernel
theorem tyX1_ok : ∀ k, k < 11 → parseFieldDescriptor (TX1 k).2.2.1 = some (tyX1 k) := by decide +kernel
abbrev cX1_init : ByteArray := prog_3_method_1_code
def yX1_init : MethodName := ⟨RX1, "<init>", "()V"⟩
abbrev cX1_run : ByteArray := prog_3_method_2_code
def yX1_run : MethodName := ⟨RX1, "run", "(LRowVotes$Scene;I)V"⟩
abbrev cX1_isVain : ByteArray := prog_3_method_3_code
def yX1_isVain : MethodName := ⟨RX1, "isVain", "()Z"⟩
abbrev cX1_answer : ByteArray := prog_3_method_4_code
def yX1_answer : MethodName := ⟨RX1, "answer", "(I)I"⟩
abbrev cX1_gatherDemands : ByteArray := prog_3_method_5_code
def yX1_gatherDemands : MethodName := ⟨RX1, "gatherDemands", "(LRowVotes$Scene;I)V"⟩
abbrev cX1_addDemand : ByteArray := prog_3_method_6_code
def yX1_addDemand : MethodName := ⟨RX1, "addDemand", "(LRowVotes$Scene;ILRowVotes$Frame;I)V"⟩
abbrev cX1_meetsDemands : ByteArray := prog_3_method_7_code
def yX1_meetsDemands : MethodName := ⟨RX1, "meetsDemands", "(III)Z"⟩
abbrev cX1_keepMotion : ByteArray := prog_3_method_8_code
def yX1_keepMotion : MethodName := ⟨RX1, "keepMotion", "(II)V"⟩
def RX2 : String := "RowVotes$Order"
def TX2 : u_T := fun k => match k with
  | 0 => ("RowVotes$Order", "letter", "C", false)
  | 1 => ("RowVotes$Order", "numbers", "[I", true)
  | 2 => ("RowVotes$Order", "end", "I", false)
  | _ => ("RowVotes$Order", "broken", "Z", false)
def tyX2 : Nat → FieldType := fun k => match k with
  | 0 => .char
  | 1 => .array .int
  | 2 => .int
  | _ => .boolean
abbrev wsX20 : List Cond := u_ws RX2 TX2 4
theorem nmX2 : ∀ a, a < 4 → ∀ b, b < 4 → a ≠ b → (TX2 a).2.1 ≠ (TX2 b).2.1 := by decide +kernel
theorem tyX2_ok : ∀ k, k < 4 → parseFieldDescriptor (TX2 k).2.2.1 = some (tyX2 k) := by decide +kernel
abbrev cX2_init : ByteArray := prog_4_method_1_code
def yX2_init : MethodName := ⟨RX2, "<init>", "()V"⟩
abbrev cX2_read : ByteArray := prog_4_method_2_code
def yX2_read : MethodName := ⟨RX2, "read", "(LRowVotes$Script;I)V"⟩
abbrev cX2_numbersBehind : ByteArray := prog_4_method_3_code
def yX2_numbersBehind : MethodName := ⟨RX2, "numbersBehind", "(C)I"⟩
abbrev cX2_readSign : ByteArray := prog_4_method_4_code
def yX2_readSign : MethodName := ⟨RX2, "readSign", "(LRowVotes$Script;C)V"⟩
abbrev cX2_readNumber : ByteArray := prog_4_method_5_code
def yX2_readNumber : MethodName := ⟨RX2, "readNumber", "(LRowVotes$Script;I)V"⟩
abbrev cX2_isDigit : ByteArray := prog_4_method_6_code
def yX2_isDigit : MethodName := ⟨RX2, "isDigit", "(C)Z"⟩
abbrev cX2_numberAt : ByteArray := prog_4_method_7_code
def yX2_numberAt : MethodName := ⟨RX2, "numberAt", "(I)I"⟩
abbrev cX2_wrongNumber : ByteArray := prog_4_method_8_code
def yX2_wrongNumber : MethodName := ⟨RX2, "wrongNumber", "()I"⟩
abbrev cX2_perform : ByteArray := prog_4_method_9_code
def yX2_perform : MethodName := ⟨RX2, "perform", "(LRowVotes$Scene;[I)V"⟩
def RX3 : String := "RowVotes$Scene"
def TX3 : u_T := fun k => match k with
  | 0 => ("RowVotes$Scene", "settings", "[I", true)
  | 1 => ("RowVotes$Scene", "things", "[LRowVotes$Thing;", true)
  | 2 => ("RowVotes$Scene", "thingCount", "I", false)
  | 3 => ("RowVotes$Scene", "frames", "[LRowVotes$Frame;", true)
  | 4 => ("RowVotes$Scene", "frameCount", "I", false)
  | 5 => ("RowVotes$Scene", "framesTaken", "I", false)
  | 6 => ("RowVotes$Scene", "time", "I", false)
  | 7 => ("RowVotes$Scene", "blinded", "I", false)
  | 8 => ("RowVotes$Scene", "agreed", "[I", true)
  | _ => ("RowVotes$Scene", "dissented", "[I", true)
def tyX3 : Nat → FieldType := fun k => match k with
  | 0 => .array .int
  | 1 => .array (.object "RowVotes$Thing")
  | 2 => .int
  | 3 => .array (.object "RowVotes$Frame")
  | 4 => .int
  | 5 => .int
  | 6 => .int
  | 7 => .int
  | 8 => .array .int
  | _ => .array .int
abbrev wsX30 : List Cond := u_ws RX3 TX3 10
theorem nmX3 : ∀ a, a < 10 → ∀ b, b < 10 → a ≠ b → (TX3 a).2.1 ≠ (TX3 b).2.1 := by decide +kernel
theorem tyX3_ok : ∀ k, k < 10 → parseFieldDescriptor (TX3 k).2.2.1 = some (tyX3 k) := by decide +kernel
abbrev cX3_init : ByteArray := prog_5_method_1_code
def yX3_init : MethodName := ⟨RX3, "<init>", "()V"⟩
abbrev cX3_become : ByteArray := prog_5_method_2_code
def yX3_become : MethodName := ⟨RX3, "become", "(LRowVotes$Scene;)V"⟩
abbrev cX3_becomeInThings : ByteArray := prog_5_method_3_code
def yX3_becomeInThings : MethodName := ⟨RX3, "becomeInThings", "(LRowVotes$Scene;)V"⟩
abbrev cX3_becomeInFrames : ByteArray := prog_5_method_4_code
def yX3_becomeInFrames : MethodName := ⟨RX3, "becomeInFrames", "(LRowVotes$Scene;)V"⟩
abbrev cX3_setting : ByteArray := prog_5_method_5_code
def yX3_setting : MethodName := ⟨RX3, "setting", "(I)I"⟩
abbrev cX3_changeSetting : ByteArray := prog_5_method_6_code
def yX3_changeSetting : MethodName := ⟨RX3, "changeSetting", "(II)V"⟩
abbrev cX3_thingAt : ByteArray := prog_5_method_7_code
def yX3_thingAt : MethodName := ⟨RX3, "thingAt", "(I)LRowVotes$Thing;"⟩
abbrev cX3_addThing : ByteArray := prog_5_method_8_code
def yX3_addThing : MethodName := ⟨RX3, "addThing", "(IIIIII)V"⟩
abbrev cX3_frameAt : ByteArray := prog_5_method_9_code
def yX3_frameAt : MethodName := ⟨RX3, "frameAt", "(I)LRowVotes$Frame;"⟩
abbrev cX3_takeFrame : ByteArray := prog_5_method_10_code
def yX3_takeFrame : MethodName := ⟨RX3, "takeFrame", "([I)V"⟩
abbrev cX3_dropFrame : ByteArray := prog_5_method_11_code
def yX3_dropFrame : MethodName := ⟨RX3, "dropFrame", "(I)V"⟩
abbrev cX3_photograph : ByteArray := prog_5_method_12_code
def yX3_photograph : MethodName := ⟨RX3, "photograph", "(LRowVotes$Frame;I[I)V"⟩
abbrev cX3_timeOfRow : ByteArray := prog_5_method_13_code
def yX3_timeOfRow : MethodName := ⟨RX3, "timeOfRow", "(LRowVotes$Frame;I)I"⟩
abbrev cX3_percentAt : ByteArray := prog_5_method_14_code
def yX3_percentAt : MethodName := ⟨RX3, "percentAt", "(I)I"⟩
abbrev cX3_paint : ByteArray := prog_5_method_15_code
def yX3_paint : MethodName := ⟨RX3, "paint", "(IIII[I)V"⟩
abbrev cX3_paintOver : ByteArray := prog_5_method_16_code
def yX3_paintOver : MethodName := ⟨RX3, "paintOver", "([III)V"⟩
abbrev cX3_edgesIn : ByteArray := prog_5_method_17_code
def yX3_edgesIn : MethodName := ⟨RX3, "edgesIn", "(LRowVotes$Frame;I)I"⟩
abbrev cX3_judgeRows : ByteArray := prog_5_method_18_code
def yX3_judgeRows : MethodName := ⟨RX3, "judgeRows", "(II)V"⟩
abbrev cX3_weightOf : ByteArray := prog_5_method_19_code
def yX3_weightOf : MethodName := ⟨RX3, "weightOf", "(I)I"⟩
def RX4 : String := "RowVotes$Script"
def TX4 : u_T := fun k => match k with
  | 0 => ("RowVotes$Script", "signs", "[C", true)
  | 1 => ("RowVotes$Script", "length", "I", false)
  | 2 => ("RowVotes$Script", "order", "LRowVotes$Order;", true)
  | 3 => ("RowVotes$Script", "orderCount", "I", false)
  | 4 => ("RowVotes$Script", "place", "I", false)
  | 5 => ("RowVotes$Script", "reason", "I", false)
  | 6 => ("RowVotes$Script", "cause", "I", false)
  | 7 => ("RowVotes$Script", "thingsThen", "I", false)
  | 8 => ("RowVotes$Script", "timeThen", "I", false)
  | _ => ("RowVotes$Script", "blindedThen", "I", false)
def tyX4 : Nat → FieldType := fun k => match k with
  | 0 => .array .char
  | 1 => .int
  | 2 => .object "RowVotes$Order"
  | 3 => .int
  | 4 => .int
  | 5 => .int
  | 6 => .int
  | 7 => .int
  | 8 => .int
  | _ => .int
abbrev wsX40 : List Cond := u_ws RX4 TX4 10
theorem nmX4 : ∀ a, a < 10 → ∀ b, b < 10 → a ≠ b → (TX4 a).2.1 ≠ (TX4 b).2.1 := by decide +kernel
theorem tyX4_ok : ∀ k, k < 10 → parseFieldDescriptor (TX4 k).2.2.1 = some (tyX4 k) := by decide +kernel
abbrev cX4_init : ByteArray := prog_6_method_1_code
def yX4_init : MethodName := ⟨RX4, "<init>", "()V"⟩
abbrev cX4_append : ByteArray := prog_6_method_2_code
def yX4_append : MethodName := ⟨RX4, "append", "(C)Z"⟩
abbrev cX4_signAt : ByteArray := prog_6_method_3_code
def yX4_signAt : MethodName := ⟨RX4, "signAt", "(I)C"⟩
abbrev cX4_examine : ByteArray := prog_6_method_4_code
def yX4_examine : MethodName := ⟨RX4, "examine", "(LRowVotes$Scene;)V"⟩
abbrev cX4_examineOrder : ByteArray := prog_6_method_5_code
def yX4_examineOrder : MethodName := ⟨RX4, "examineOrder", "()V"⟩
abbrev cX4_isPossibleThen : ByteArray := prog_6_method_6_code
def yX4_isPossibleThen : MethodName := ⟨RX4, "isPossibleThen", "()Z"⟩
def RX5 : String := "RowVotes$Thing"
def TX5 : u_T := fun k => match k with
  | 0 => ("RowVotes$Thing", "top", "I", false)
  | 1 => ("RowVotes$Thing", "bottom", "I", false)
  | 2 => ("RowVotes$Thing", "position", "I", false)
  | 3 => ("RowVotes$Thing", "speed", "I", false)
  | 4 => ("RowVotes$Thing", "width", "I", false)
  | _ => ("RowVotes$Thing", "brightness", "I", false)
def tyX5 : Nat → FieldType := fun k => match k with
  | 0 => .int
  | 1 => .int
  | 2 => .int
  | 3 => .int
  | 4 => .int
  | _ => .int
abbrev wsX50 : List Cond := u_ws RX5 TX5 6
theorem nmX5 : ∀ a, a < 6 → ∀ b, b < 6 → a ≠ b → (TX5 a).2.1 ≠ (TX5 b).2.1 := by decide +kernel
theorem tyX5_ok : ∀ k, k < 6 → parseFieldDescriptor (TX5 k).2.2.1 = some (tyX5 k) := by decide +kernel
abbrev cX5_init : ByteArray := prog_7_method_1_code
def yX5_init : MethodName := ⟨RX5, "<init>", "()V"⟩
abbrev cX5_become : ByteArray := prog_7_method_2_code
def yX5_become : MethodName := ⟨RX5, "become", "(LRowVotes$Thing;)V"⟩
abbrev cX5_numberOf : ByteArray := prog_7_method_3_code
def yX5_numberOf : MethodName := ⟨RX5, "numberOf", "(I)I"⟩
abbrev cX5_isIn : ByteArray := prog_7_method_4_code
def yX5_isIn : MethodName := ⟨RX5, "isIn", "(I)Z"⟩
abbrev cX5_positionAt : ByteArray := prog_7_method_5_code
def yX5_positionAt : MethodName := ⟨RX5, "positionAt", "(I)I"⟩
abbrev cX5_changeSpeed : ByteArray := prog_7_method_6_code
def yX5_changeSpeed : MethodName := ⟨RX5, "changeSpeed", "(II)V"⟩
def RX6 : String := "RowVotes$Voting"
def TX6 : u_T := fun k => match k with
  | 0 => ("RowVotes$Voting", "firstEdges", "[I", true)
  | 1 => ("RowVotes$Voting", "secondEdges", "[I", true)
  | 2 => ("RowVotes$Voting", "votes", "[I", true)
  | _ => ("RowVotes$Voting", "tally", "[I", true)
def tyX6 : Nat → FieldType := fun k => match k with
  | 0 => .array .int
  | 1 => .array .int
  | 2 => .array .int
  | _ => .array .int
abbrev wsX60 : List Cond := u_ws RX6 TX6 4
theorem nmX6 : ∀ a, a < 4 → ∀ b, b < 4 → a ≠ b → (TX6 a).2.1 ≠ (TX6 b).2.1 := by decide +kernel
theorem tyX6_ok : ∀ k, k < 4 → parseFieldDescriptor (TX6 k).2.2.1 = some (tyX6 k) := by decide +kernel
abbrev cX6_init : ByteArray := prog_8_method_1_code
def yX6_init : MethodName := ⟨RX6, "<init>", "()V"⟩
abbrev cX6_readFirst : ByteArray := prog_8_method_2_code
def yX6_readFirst : MethodName := ⟨RX6, "readFirst", "(LRowVotes$Scene;LRowVotes$Frame;)V"⟩
abbrev cX6_readSecond : ByteArray := prog_8_method_3_code
def yX6_readSecond : MethodName := ⟨RX6, "readSecond", "(LRowVotes$Scene;LRowVotes$Frame;)V"⟩
abbrev cX6_readEdges : ByteArray := prog_8_method_4_code
def yX6_readEdges : MethodName := ⟨RX6, "readEdges", "(LRowVotes$Scene;LRowVotes$Frame;[I)V"⟩
abbrev cX6_voteOnShift : ByteArray := prog_8_method_5_code
def yX6_voteOnShift : MethodName := ⟨RX6, "voteOnShift", "()V"⟩
abbrev cX6_voteOnSlant : ByteArray := prog_8_method_6_code
def yX6_voteOnSlant : MethodName := ⟨RX6, "voteOnSlant", "(LRowVotes$Scene;LRowVotes$Frame;)V"⟩
abbrev cX6_weigh : ByteArray := prog_8_method_7_code
def yX6_weigh : MethodName := ⟨RX6, "weigh", "(LRowVotes$Scene;)V"⟩
abbrev cX6_countVotes : ByteArray := prog_8_method_8_code
def yX6_countVotes : MethodName := ⟨RX6, "countVotes", "(LRowVotes$Scene;)V"⟩
abbrev cX6_voteOf : ByteArray := prog_8_method_9_code
def yX6_voteOf : MethodName := ⟨RX6, "voteOf", "(I)I"⟩
abbrev cX6_votersFor : ByteArray := prog_8_method_10_code
def yX6_votersFor : MethodName := ⟨RX6, "votersFor", "(I)I"⟩
abbrev cX6_votersAtAll : ByteArray := prog_8_method_11_code
def yX6_votersAtAll : MethodName := ⟨RX6, "votersAtAll", "()I"⟩
abbrev cX6_mostVotes : ByteArray := prog_8_method_12_code
def yX6_mostVotes : MethodName := ⟨RX6, "mostVotes", "()I"⟩
abbrev cX6_told : ByteArray := prog_8_method_13_code
def yX6_told : MethodName := ⟨RX6, "told", "()I"⟩
def RX7 : String := "RowVotes"
def TX7 : u_T := fun k => match k with
  | 0 => ("RowVotes", "now", "LRowVotes$Scene;", true)
  | 1 => ("RowVotes", "history", "[LRowVotes$Scene;", true)
  | 2 => ("RowVotes", "states", "I", false)
  | 3 => ("RowVotes", "script", "LRowVotes$Script;", true)
  | 4 => ("RowVotes", "voting", "LRowVotes$Voting;", true)
  | 5 => ("RowVotes", "search", "LRowVotes$MotionSearch;", true)
  | 6 => ("RowVotes", "trial", "LRowVotes$Frame;", true)
  | _ => ("RowVotes", "line", "[I", true)
def tyX7 : Nat → FieldType := fun k => match k with
  | 0 => .object "RowVotes$Scene"
  | 1 => .array (.object "RowVotes$Scene")
  | 2 => .int
  | 3 => .object "RowVotes$Script"
  | 4 => .object "RowVotes$Voting"
  | 5 => .object "RowVotes$MotionSearch"
  | 6 => .object "RowVotes$Frame"
  | _ => .array .int
abbrev wsX70 : List Cond := u_ws RX7 TX7 8
theorem nmX7 : ∀ a, a < 8 → ∀ b, b < 8 → a ≠ b → (TX7 a).2.1 ≠ (TX7 b).2.1 := by decide +kernel
theorem tyX7_ok : ∀ k, k < 8 → parseFieldDescriptor (TX7 k).2.2.1 = some (tyX7 k) := by decide +kernel
abbrev cX7_init : ByteArray := prog_1_method_1_code
def yX7_init : MethodName := ⟨RX7, "<init>", "()V"⟩
abbrev cX7_set : ByteArray := prog_1_method_2_code
def yX7_set : MethodName := ⟨RX7, "set", "(II)I"⟩
abbrev cX7_thing : ByteArray := prog_1_method_3_code
def yX7_thing : MethodName := ⟨RX7, "thing", "(IIIIII)I"⟩
abbrev cX7_turn : ByteArray := prog_1_method_4_code
def yX7_turn : MethodName := ⟨RX7, "turn", "(II)I"⟩
abbrev cX7_thingOf : ByteArray := prog_1_method_5_code
def yX7_thingOf : MethodName := ⟨RX7, "thingOf", "(II)I"⟩
abbrev cX7_blind : ByteArray := prog_1_method_6_code
def yX7_blind : MethodName := ⟨RX7, "blind", "(II)I"⟩
abbrev cX7_shows : ByteArray := prog_1_method_7_code
def yX7_shows : MethodName := ⟨RX7, "shows", "(III)I"⟩
abbrev cX7_shoot : ByteArray := prog_1_method_8_code
def yX7_shoot : MethodName := ⟨RX7, "shoot", "()I"⟩
abbrev cX7_forget : ByteArray := prog_1_method_9_code
def yX7_forget : MethodName := ⟨RX7, "forget", "(I)I"⟩
abbrev cX7_frameOf : ByteArray := prog_1_method_10_code
def yX7_frameOf : MethodName := ⟨RX7, "frameOf", "(II)I"⟩
abbrev cX7_pixel : ByteArray := prog_1_method_11_code
def yX7_pixel : MethodName := ⟨RX7, "pixel", "(III)I"⟩
abbrev cX7_edges : ByteArray := prog_1_method_12_code
def yX7_edges : MethodName := ⟨RX7, "edges", "(II)I"⟩
abbrev cX7_pass : ByteArray := prog_1_method_13_code
def yX7_pass : MethodName := ⟨RX7, "pass", "(I)I"⟩
abbrev cX7_vote : ByteArray := prog_1_method_14_code
def yX7_vote : MethodName := ⟨RX7, "vote", "(III)I"⟩
abbrev cX7_shift : ByteArray := prog_1_method_15_code
def yX7_shift : MethodName := ⟨RX7, "shift", "(II)I"⟩
abbrev cX7_voters : ByteArray := prog_1_method_16_code
def yX7_voters : MethodName := ⟨RX7, "voters", "(III)I"⟩
abbrev cX7_dissent : ByteArray := prog_1_method_17_code
def yX7_dissent : MethodName := ⟨RX7, "dissent", "(II)I"⟩
abbrev cX7_speed : ByteArray := prog_1_method_18_code
def yX7_speed : MethodName := ⟨RX7, "speed", "(II)I"⟩
abbrev cX7_slant : ByteArray := prog_1_method_19_code
def yX7_slant : MethodName := ⟨RX7, "slant", "(I)I"⟩
abbrev cX7_slantSpeed : ByteArray := prog_1_method_20_code
def yX7_slantSpeed : MethodName := ⟨RX7, "slantSpeed", "(I)I"⟩
abbrev cX7_weighed : ByteArray := prog_1_method_21_code
def yX7_weighed : MethodName := ⟨RX7, "weighed", "(II)I"⟩
abbrev cX7_judge : ByteArray := prog_1_method_22_code
def yX7_judge : MethodName := ⟨RX7, "judge", "(II)I"⟩
abbrev cX7_rowOf : ByteArray := prog_1_method_23_code
def yX7_rowOf : MethodName := ⟨RX7, "rowOf", "(II)I"⟩
abbrev cX7_bestWait : ByteArray := prog_1_method_24_code
def yX7_bestWait : MethodName := ⟨RX7, "bestWait", "(II)I"⟩
abbrev cX7_motions : ByteArray := prog_1_method_25_code
def yX7_motions : MethodName := ⟨RX7, "motions", "(II)I"⟩
abbrev cX7_periods : ByteArray := prog_1_method_26_code
def yX7_periods : MethodName := ⟨RX7, "periods", "()I"⟩
abbrev cX7_fitting : ByteArray := prog_1_method_27_code
def yX7_fitting : MethodName := ⟨RX7, "fitting", "(I)I"⟩
abbrev cX7_count : ByteArray := prog_1_method_28_code
def yX7_count : MethodName := ⟨RX7, "count", "(I)I"⟩
abbrev cX7_undo : ByteArray := prog_1_method_29_code
def yX7_undo : MethodName := ⟨RX7, "undo", "()I"⟩
abbrev cX7_type : ByteArray := prog_1_method_30_code
def yX7_type : MethodName := ⟨RX7, "type", "(I)I"⟩
abbrev cX7_clearText : ByteArray := prog_1_method_31_code
def yX7_clearText : MethodName := ⟨RX7, "clearText", "()I"⟩
abbrev cX7_fault : ByteArray := prog_1_method_32_code
def yX7_fault : MethodName := ⟨RX7, "fault", "(I)I"⟩
abbrev cX7_play : ByteArray := prog_1_method_33_code
def yX7_play : MethodName := ⟨RX7, "play", "()I"⟩
abbrev cX7_recordState : ByteArray := prog_1_method_34_code
def yX7_recordState : MethodName := ⟨RX7, "recordState", "()V"⟩
abbrev cX7_isPlace : ByteArray := prog_1_method_35_code
def yX7_isPlace : MethodName := ⟨RX7, "isPlace", "(II)Z"⟩
abbrev cX7_isPair : ByteArray := prog_1_method_36_code
def yX7_isPair : MethodName := ⟨RX7, "isPair", "(II)Z"⟩
abbrev cX7_voteOn : ByteArray := prog_1_method_37_code
def yX7_voteOn : MethodName := ⟨RX7, "voteOn", "(II)V"⟩
abbrev cX7_edgeCountOf : ByteArray := prog_1_method_38_code
def yX7_edgeCountOf : MethodName := ⟨RX7, "edgeCountOf", "(LRowVotes$Frame;)I"⟩
abbrev cX7_rowFits : ByteArray := prog_1_method_39_code
def yX7_rowFits : MethodName := ⟨RX7, "rowFits", "(LRowVotes$Frame;II)Z"⟩
abbrev cX7_periodsFitting : ByteArray := prog_1_method_40_code
def yX7_periodsFitting : MethodName := ⟨RX7, "periodsFitting", "(LRowVotes$Frame;)I"⟩
abbrev cX7_darkPeriods : ByteArray := prog_1_method_41_code
def yX7_darkPeriods : MethodName := ⟨RX7, "darkPeriods", "(I)I"⟩
abbrev cX7_isWithin : ByteArray := prog_1_method_42_code
def yX7_isWithin : MethodName := ⟨RX7, "isWithin", "(III)Z"⟩
abbrev cX7_numberIn : ByteArray := prog_1_method_43_code
def yX7_numberIn : MethodName := ⟨RX7, "numberIn", "([II)I"⟩
abbrev cX7_holds : ByteArray := prog_1_method_44_code
def yX7_holds : MethodName := ⟨RX7, "holds", "(II)Z"⟩
abbrev cX7_isDark : ByteArray := prog_1_method_45_code
def yX7_isDark : MethodName := ⟨RX7, "isDark", "(III)Z"⟩
abbrev cX7_dimmed : ByteArray := prog_1_method_46_code
def yX7_dimmed : MethodName := ⟨RX7, "dimmed", "(II)I"⟩
abbrev cX7_wrongOfThing : ByteArray := prog_1_method_47_code
def yX7_wrongOfThing : MethodName := ⟨RX7, "wrongOfThing", "(IIIIII)I"⟩
abbrev cX7_columnsCovered : ByteArray := prog_1_method_48_code
def yX7_columnsCovered : MethodName := ⟨RX7, "columnsCovered", "(II)I"⟩
abbrev cX7_bestShift : ByteArray := prog_1_method_49_code
def yX7_bestShift : MethodName := ⟨RX7, "bestShift", "(II)I"⟩
def RX8 : String := "RowVotesModel"
def TX8 : u_T := fun k => match k with
  | 0 => ("RowVotesModel", "now", "[I", true)
  | 1 => ("RowVotesModel", "past", "[I", true)
  | 2 => ("RowVotesModel", "states", "I", false)
  | 3 => ("RowVotesModel", "tried", "[I", true)
  | 4 => ("RowVotesModel", "text", "[I", true)
  | 5 => ("RowVotesModel", "letters", "I", false)
  | 6 => ("RowVotesModel", "votes", "[I", true)
  | 7 => ("RowVotesModel", "many", "I", false)
  | 8 => ("RowVotesModel", "firstPosition", "I", false)
  | 9 => ("RowVotesModel", "firstSpeed", "I", false)
  | 10 => ("RowVotesModel", "lastPosition", "I", false)
  | 11 => ("RowVotesModel", "lastSpeed", "I", false)
  | 12 => ("RowVotesModel", "at", "I", false)
  | 13 => ("RowVotesModel", "numbers", "[I", true)
  | 14 => ("RowVotesModel", "breaksAt", "I", false)
  | 15 => ("RowVotesModel", "faultPlace", "I", false)
  | 16 => ("RowVotesModel", "faultReason", "I", false)
  | _ => ("RowVotesModel", "faultCause", "I", false)
def tyX8 : Nat → FieldType := fun k => match k with
  | 0 => .array .int
  | 1 => .array .int
  | 2 => .int
  | 3 => .array .int
  | 4 => .array .int
  | 5 => .int
  | 6 => .array .int
  | 7 => .int
  | 8 => .int
  | 9 => .int
  | 10 => .int
  | 11 => .int
  | 12 => .int
  | 13 => .array .int
  | 14 => .int
  | 15 => .int
  | 16 => .int
  | _ => .int
abbrev wsX80 : List Cond := u_ws RX8 TX8 18
theorem nmX8 : ∀ a, a < 18 → ∀ b, b < 18 → a ≠ b → (TX8 a).2.1 ≠ (TX8 b).2.1 := by decide +kernel
theorem tyX8_ok : ∀ k, k < 18 → parseFieldDescriptor (TX8 k).2.2.1 = some (tyX8 k) := by decide +kernel
abbrev cX8_init : ByteArray := prog_10_method_1_code
def yX8_init : MethodName := ⟨RX8, "<init>", "()V"⟩
abbrev cX8_in : ByteArray := prog_10_method_2_code
def yX8_in : MethodName := ⟨RX8, "in", "(III)Z"⟩
abbrev cX8_has : ByteArray := prog_10_method_3_code
def yX8_has : MethodName := ⟨RX8, "has", "(II)Z"⟩
abbrev cX8_bits : ByteArray := prog_10_method_4_code
def yX8_bits : MethodName := ⟨RX8, "bits", "(I)I"⟩
abbrev cX8_copies : ByteArray := prog_10_method_5_code
def yX8_copies : MethodName := ⟨RX8, "copies", "([II[II)V"⟩
abbrev cX8_notes : ByteArray := prog_10_method_6_code
def yX8_notes : MethodName := ⟨RX8, "notes", "()V"⟩
abbrev cX8_isSetting : ByteArray := prog_10_method_7_code
def yX8_isSetting : MethodName := ⟨RX8, "isSetting", "(II)Z"⟩
abbrev cX8_set : ByteArray := prog_10_method_8_code
def yX8_set : MethodName := ⟨RX8, "set", "(II)I"⟩
abbrev cX8_wrongNumber : ByteArray := prog_10_method_9_code
def yX8_wrongNumber : MethodName := ⟨RX8, "wrongNumber", "(IIIIII)I"⟩
abbrev cX8_adds : ByteArray := prog_10_method_10_code
def yX8_adds : MethodName := ⟨RX8, "adds", "([IIIIIII)V"⟩
abbrev cX8_thing : ByteArray := prog_10_method_11_code
def yX8_thing : MethodName := ⟨RX8, "thing", "(IIIIII)I"⟩
abbrev cX8_isThing : ByteArray := prog_10_method_12_code
def yX8_isThing : MethodName := ⟨RX8, "isThing", "(I)Z"⟩
abbrev cX8_placeAt : ByteArray := prog_10_method_13_code
def yX8_placeAt : MethodName := ⟨RX8, "placeAt", "([III)I"⟩
abbrev cX8_turn : ByteArray := prog_10_method_14_code
def yX8_turn : MethodName := ⟨RX8, "turn", "(II)I"⟩
abbrev cX8_thingOf : ByteArray := prog_10_method_15_code
def yX8_thingOf : MethodName := ⟨RX8, "thingOf", "(II)I"⟩
abbrev cX8_blind : ByteArray := prog_10_method_16_code
def yX8_blind : MethodName := ⟨RX8, "blind", "(II)I"⟩
abbrev cX8_isDark : ByteArray := prog_10_method_17_code
def yX8_isDark : MethodName := ⟨RX8, "isDark", "([II)Z"⟩
abbrev cX8_covers : ByteArray := prog_10_method_18_code
def yX8_covers : MethodName := ⟨RX8, "covers", "([IIIII)Z"⟩
abbrev cX8_shown : ByteArray := prog_10_method_19_code
def yX8_shown : MethodName := ⟨RX8, "shown", "([IIII)I"⟩
abbrev cX8_isRow : ByteArray := prog_10_method_20_code
def yX8_isRow : MethodName := ⟨RX8, "isRow", "(I)Z"⟩
abbrev cX8_isColumn : ByteArray := prog_10_method_21_code
def yX8_isColumn : MethodName := ⟨RX8, "isColumn", "(I)Z"⟩
abbrev cX8_shows : ByteArray := prog_10_method_22_code
def yX8_shows : MethodName := ⟨RX8, "shows", "(III)I"⟩
abbrev cX8_drops : ByteArray := prog_10_method_23_code
def yX8_drops : MethodName := ⟨RX8, "drops", "([II)V"⟩
abbrev cX8_takes : ByteArray := prog_10_method_24_code
def yX8_takes : MethodName := ⟨RX8, "takes", "([I)V"⟩
abbrev cX8_shoot : ByteArray := prog_10_method_25_code
def yX8_shoot : MethodName := ⟨RX8, "shoot", "()I"⟩
abbrev cX8_isFrame : ByteArray := prog_10_method_26_code
def yX8_isFrame : MethodName := ⟨RX8, "isFrame", "(I)Z"⟩
abbrev cX8_forget : ByteArray := prog_10_method_27_code
def yX8_forget : MethodName := ⟨RX8, "forget", "(I)I"⟩
abbrev cX8_frameValue : ByteArray := prog_10_method_28_code
def yX8_frameValue : MethodName := ⟨RX8, "frameValue", "(II)I"⟩
abbrev cX8_isSeen : ByteArray := prog_10_method_29_code
def yX8_isSeen : MethodName := ⟨RX8, "isSeen", "(II)Z"⟩
abbrev cX8_pixelOf : ByteArray := prog_10_method_30_code
def yX8_pixelOf : MethodName := ⟨RX8, "pixelOf", "(III)I"⟩
abbrev cX8_isEdge : ByteArray := prog_10_method_31_code
def yX8_isEdge : MethodName := ⟨RX8, "isEdge", "(III)Z"⟩
abbrev cX8_edgesIn : ByteArray := prog_10_method_32_code
def yX8_edgesIn : MethodName := ⟨RX8, "edgesIn", "(II)I"⟩
abbrev cX8_frameOf : ByteArray := prog_10_method_33_code
def yX8_frameOf : MethodName := ⟨RX8, "frameOf", "(II)I"⟩
abbrev cX8_pixel : ByteArray := prog_10_method_34_code
def yX8_pixel : MethodName := ⟨RX8, "pixel", "(III)I"⟩
abbrev cX8_edges : ByteArray := prog_10_method_35_code
def yX8_edges : MethodName := ⟨RX8, "edges", "(II)I"⟩
abbrev cX8_pass : ByteArray := prog_10_method_36_code
def yX8_pass : MethodName := ⟨RX8, "pass", "(I)I"⟩
abbrev cX8_size : ByteArray := prog_10_method_37_code
def yX8_size : MethodName := ⟨RX8, "size", "(I)I"⟩
abbrev cX8_agreeing : ByteArray := prog_10_method_38_code
def yX8_agreeing : MethodName := ⟨RX8, "agreeing", "(III)I"⟩
abbrev cX8_voteBy : ByteArray := prog_10_method_39_code
def yX8_voteBy : MethodName := ⟨RX8, "voteBy", "(II)I"⟩
abbrev cX8_voteOf : ByteArray := prog_10_method_40_code
def yX8_voteOf : MethodName := ⟨RX8, "voteOf", "(III)I"⟩
abbrev cX8_areFrames : ByteArray := prog_10_method_41_code
def yX8_areFrames : MethodName := ⟨RX8, "areFrames", "(II)Z"⟩
abbrev cX8_vote : ByteArray := prog_10_method_42_code
def yX8_vote : MethodName := ⟨RX8, "vote", "(III)I"⟩
abbrev cX8_noVotes : ByteArray := prog_10_method_43_code
def yX8_noVotes : MethodName := ⟨RX8, "noVotes", "()V"⟩
abbrev cX8_counts : ByteArray := prog_10_method_44_code
def yX8_counts : MethodName := ⟨RX8, "counts", "(II)V"⟩
abbrev cX8_mostVoted : ByteArray := prog_10_method_45_code
def yX8_mostVoted : MethodName := ⟨RX8, "mostVoted", "()I"⟩
abbrev cX8_weightOf : ByteArray := prog_10_method_46_code
def yX8_weightOf : MethodName := ⟨RX8, "weightOf", "(I)I"⟩
abbrev cX8_toldBy : ByteArray := prog_10_method_47_code
def yX8_toldBy : MethodName := ⟨RX8, "toldBy", "(IIZ)I"⟩
abbrev cX8_shift : ByteArray := prog_10_method_48_code
def yX8_shift : MethodName := ⟨RX8, "shift", "(II)I"⟩
abbrev cX8_votersOf : ByteArray := prog_10_method_49_code
def yX8_votersOf : MethodName := ⟨RX8, "votersOf", "(IIIZ)I"⟩
abbrev cX8_voters : ByteArray := prog_10_method_50_code
def yX8_voters : MethodName := ⟨RX8, "voters", "(III)I"⟩
abbrev cX8_dissent : ByteArray := prog_10_method_51_code
def yX8_dissent : MethodName := ⟨RX8, "dissent", "(II)I"⟩
abbrev cX8_speed : ByteArray := prog_10_method_52_code
def yX8_speed : MethodName := ⟨RX8, "speed", "(II)I"⟩
abbrev cX8_slantOf : ByteArray := prog_10_method_53_code
def yX8_slantOf : MethodName := ⟨RX8, "slantOf", "(I)I"⟩
abbrev cX8_slant : ByteArray := prog_10_method_54_code
def yX8_slant : MethodName := ⟨RX8, "slant", "(I)I"⟩
abbrev cX8_slantSpeed : ByteArray := prog_10_method_55_code
def yX8_slantSpeed : MethodName := ⟨RX8, "slantSpeed", "(I)I"⟩
abbrev cX8_weighed : ByteArray := prog_10_method_56_code
def yX8_weighed : MethodName := ⟨RX8, "weighed", "(II)I"⟩
abbrev cX8_judge : ByteArray := prog_10_method_57_code
def yX8_judge : MethodName := ⟨RX8, "judge", "(II)I"⟩
abbrev cX8_rowOf : ByteArray := prog_10_method_58_code
def yX8_rowOf : MethodName := ⟨RX8, "rowOf", "(II)I"⟩
abbrev cX8_edgesAt : ByteArray := prog_10_method_59_code
def yX8_edgesAt : MethodName := ⟨RX8, "edgesAt", "(II)I"⟩
abbrev cX8_bestWait : ByteArray := prog_10_method_60_code
def yX8_bestWait : MethodName := ⟨RX8, "bestWait", "(II)I"⟩
abbrev cX8_rowFits : ByteArray := prog_10_method_61_code
def yX8_rowFits : MethodName := ⟨RX8, "rowFits", "([III)Z"⟩
abbrev cX8_allFit : ByteArray := prog_10_method_62_code
def yX8_allFit : MethodName := ⟨RX8, "allFit", "([I)Z"⟩
abbrev cX8_tries : ByteArray := prog_10_method_63_code
def yX8_tries : MethodName := ⟨RX8, "tries", "(I)V"⟩
abbrev cX8_motions : ByteArray := prog_10_method_64_code
def yX8_motions : MethodName := ⟨RX8, "motions", "(II)I"⟩
abbrev cX8_periods : ByteArray := prog_10_method_65_code
def yX8_periods : MethodName := ⟨RX8, "periods", "()I"⟩
abbrev cX8_fitting : ByteArray := prog_10_method_66_code
def yX8_fitting : MethodName := ⟨RX8, "fitting", "(I)I"⟩
abbrev cX8_count : ByteArray := prog_10_method_67_code
def yX8_count : MethodName := ⟨RX8, "count", "(I)I"⟩
abbrev cX8_undo : ByteArray := prog_10_method_68_code
def yX8_undo : MethodName := ⟨RX8, "undo", "()I"⟩
abbrev cX8_type : ByteArray := prog_10_method_69_code
def yX8_type : MethodName := ⟨RX8, "type", "(I)I"⟩
abbrev cX8_clearText : ByteArray := prog_10_method_70_code
def yX8_clearText : MethodName := ⟨RX8, "clearText", "()I"⟩
abbrev cX8_look : ByteArray := prog_10_method_71_code
def yX8_look : MethodName := ⟨RX8, "look", "()I"⟩
abbrev cX8_sign : ByteArray := prog_10_method_72_code
def yX8_sign : MethodName := ⟨RX8, "sign", "(I)V"⟩
abbrev cX8_number : ByteArray := prog_10_method_73_code
def yX8_number : MethodName := ⟨RX8, "number", "(I)V"⟩
abbrev cX8_form : ByteArray := prog_10_method_74_code
def yX8_form : MethodName := ⟨RX8, "form", "()I"⟩
abbrev cX8_wrongIn : ByteArray := prog_10_method_75_code
def yX8_wrongIn : MethodName := ⟨RX8, "wrongIn", "(I)I"⟩
abbrev cX8_can : ByteArray := prog_10_method_76_code
def yX8_can : MethodName := ⟨RX8, "can", "([III)Z"⟩
abbrev cX8_does : ByteArray := prog_10_method_77_code
def yX8_does : MethodName := ⟨RX8, "does", "([II)V"⟩
abbrev cX8_faults : ByteArray := prog_10_method_78_code
def yX8_faults : MethodName := ⟨RX8, "faults", "(III)V"⟩
abbrev cX8_done : ByteArray := prog_10_method_79_code
def yX8_done : MethodName := ⟨RX8, "done", "()I"⟩
abbrev cX8_fault : ByteArray := prog_10_method_80_code
def yX8_fault : MethodName := ⟨RX8, "fault", "(I)I"⟩
abbrev cX8_play : ByteArray := prog_10_method_81_code
def yX8_play : MethodName := ⟨RX8, "play", "()I"⟩
def RJ6 : String := "java/lang/Integer"
abbrev cJ6_bitCount_0f7a4 : ByteArray := prog_11_method_49_code
def yJ6_bitCount_0f7a4 : MethodName := ⟨RJ6, "bitCount", "(I)I"⟩
def RJ9 : String := "java/lang/Math"
abbrev cJ9_floorDiv_7cf53 : ByteArray := prog_12_method_47_code
def yJ9_floorDiv_7cf53 : MethodName := ⟨RJ9, "floorDiv", "(II)I"⟩
abbrev cJ9_abs_0f7a4 : ByteArray := prog_12_method_59_code
def yJ9_abs_0f7a4 : MethodName := ⟨RJ9, "abs", "(I)I"⟩
abbrev cJ9_max_7cf53 : ByteArray := prog_12_method_65_code
def yJ9_max_7cf53 : MethodName := ⟨RJ9, "max", "(II)I"⟩
abbrev cJ9_min_7cf53 : ByteArray := prog_12_method_69_code
def yJ9_min_7cf53 : MethodName := ⟨RJ9, "min", "(II)I"⟩
def RL : String := "RowVotesLaw"
abbrev cL_law : ByteArray := code
def yL_law : MethodName := ⟨RL, "law", "([I)Z"⟩
abbrev vwCl : List vw_C := [(RX0, TX0, 3), (RX1, TX1, 11), (RX2, TX2, 4), (RX3, TX3, 10), (RX4, TX4, 10), (RX5, TX5, 6), (RX6, TX6, 4), (RX7, TX7, 8), (RX8, TX8, 18)]
theorem dX0_init_0 : decode cX0_init 0 = .ok (.aload_n 0, 1) := by decide +kernel
theorem dX0_init_1 : decode cX0_init 1 = .ok (.invokespecial 3, 3) := by decide +kernel
theorem dX0_init_4 : decode cX0_init 4 = .ok (.aload_n 0, 1) := by decide +kernel
theorem dX0_init_5 : decode cX0_init 5 = .ok (.sipush 160, 3) := by decide +kernel
theorem dX0_init_8 : decode cX0_init 8 = .ok (.newarray .int, 2) := by decide +kernel
theorem dX0_init_10 : decode cX0_init 10 = .ok (.putfield 9, 3) := by decide +kernel
theorem dX0_init_13 : decode cX0_init 13 = .ok (.return_, 1) := by decide +kernel
theorem dX0_become_0 : decode cX0_become 0 = .ok (.aload_n 0, 1) := by decide +kernel
theorem dX0_become_1 : decode cX0_become 1 = .ok (.aload_n 1, 1) := by decide +kernel
theorem dX0_become_2 : decode cX0_become 2 = .ok (.getfield 15, 3) := by decide +kernel
theorem dX0_become_5 : decode cX0_become 5 = .ok (.putfield 15, 3) := by decide +kernel
theorem dX0_become_8 : decode cX0_become 8 = .ok (.aload_n 0, 1) := by decide +kernel
theorem dX0_become_9 : decode cX0_become 9 = .ok (.aload_n 1, 1) := by decide +kernel
theorem dX0_become_10 : decode cX0_become 10 = .ok (.getfield 19, 3) := by decide +kernel
theorem dX0_become_13 : decode cX0_become 13 = .ok (.putfield 19, 3) := by decide +kernel
theorem dX0_become_16 : decode cX0_become 16 = .ok (.iconst 0, 1) := by decide +kernel
theorem dX0_become_17 : decode cX0_become 17 = .ok (.istore_n 2, 1) := by decide +kernel
theorem dX0_become_18 : decode cX0_become 18 = .ok (.iload_n 2, 1) := by decide +kernel
theorem dX0_become_19 : decode cX0_become 19 = .ok (.aload_n 0, 1) := by decide +kernel
theorem dX0_become_20 : decode cX0_become 20 = .ok (.getfield 9, 3) := by decide +kernel
theorem dX0_become_23 : decode cX0_become 23 = .ok (.arraylength, 1) := by decide +kernel
theorem dX0_become_24 : decode cX0_become 24 = .ok (.if_icmp .ge 30, 3) := by decide +kernel
theorem dX0_become_27 : decode cX0_become 27 = .ok (.iload_n 2, 1) := by decide +kernel
theorem dX0_become_28 : decode cX0_become 28 = .ok (.aload_n 1, 1) := by decide +kernel
theorem dX0_become_29 : decode cX0_become 29 = .ok (.getfield 9, 3) := by decide +kernel
theorem dX0_become_32 : decode cX0_become 32 = .ok (.arraylength, 1) := by decide +kernel
theorem dX0_become_33 : decode cX0_become 33 = .ok (.if_icmp .ge 21, 3) := by decide +kernel
theorem dX0_become_36 : decode cX0_become 36 = .ok (.aload_n 0, 1) := by decide +kernel
theorem dX0_become_37 : decode cX0_become 37 = .ok (.getfield 9, 3) := by decide +kernel
theorem dX0_become_40 : decode cX0_become 40 = .ok (.iload_n 2, 1) := by decide +kernel
theorem dX0_become_41 : decode cX0_become 41 = .ok (.aload_n 1, 1) := by decide +kernel
theorem dX0_become_42 : decode cX0_become 42 = .ok (.getfield 9, 3) := by decide +kernel
theorem dX0_become_45 : decode cX0_become 45 = .ok (.iload_n 2, 1) := by decide +kernel
theorem dX0_become_46 : decode cX0_become 46 = .ok (.iaload, 1) := by decide +kernel
theorem dX0_become_47 : decode cX0_become 47 = .ok (.iastore, 1) := by decide +kernel
theorem dX0_become_48 : decode cX0_become 48 = .ok (.iinc 2 1, 3) := by decide +kernel
theorem dX0_become_51 : decode cX0_become 51 = .ok (.goto (-33), 3) := by decide +kernel
theorem dX0_become_54 : decode cX0_become 54 = .ok (.return_, 1) := by decide +kernel
theorem dX0_pixelAt_0 : decode cX0_pixelAt 0 = .ok (.aload_n 0, 1) := by decide +kernel
theorem dX0_pixelAt_1 : decode cX0_pixelAt 1 = .ok (.getfield 9, 3) := by decide +kernel
theorem dX0_pixelAt_4 : decode cX0_pixelAt 4 = .ok (.iload_n 1, 1) := by decide +kernel
theorem dX0_pixelAt_5 : decode cX0_pixelAt 5 = .ok (.bipush 16, 2) := by decide +kernel
theorem dX0_pixelAt_7 : decode cX0_pixelAt 7 = .ok (.imul, 1) := by decide +kernel
theorem dX0_pixelAt_8 : decode cX0_pixelAt 8 = .ok (.iload_n 2, 1) := by decide +kernel
theorem dX0_pixelAt_9 : decode cX0_pixelAt 9 = .ok (.iadd, 1) := by decide +kernel
theorem dX0_pixelAt_10 : decode cX0_pixelAt 10 = .ok (.invokestatic 22, 3) := by decide +kernel
theorem dX0_pixelAt_13 : decode cX0_pixelAt 13 = .ok (.ireturn, 1) := by decide +kernel
theorem dX0_keepRow_0 : decode cX0_keepRow 0 = .ok (.iload_n 1, 1) := by decide +kernel
theorem dX0_keepRow_1 : decode cX0_keepRow 1 = .ok (.bipush 16, 2) := by decide +kernel
theorem dX0_keepRow_3 : decode cX0_keepRow 3 = .ok (.imul, 1) := by decide +kernel
theorem dX0_keepRow_4 : decode cX0_keepRow 4 = .ok (.istore 4, 2) := by decide +kernel
theorem dX0_keepRow_6 : decode cX0_keepRow 6 = .ok (.iconst 0, 1) := by decide +kernel
theorem dX0_keepRow_7 : decode cX0_keepRow 7 = .ok (.istore 5, 2) := by decide +kernel
theorem dX0_keepRow_9 : decode cX0_keepRow 9 = .ok (.iload 5, 2) := by decide +kernel
theorem dX0_keepRow_11 : decode cX0_keepRow 11 = .ok (.aload_n 2, 1) := by decide +kernel
theorem dX0_keepRow_12 : decode cX0_keepRow 12 = .ok (.arraylength, 1) := by decide +kernel
theorem dX0_keepRow_13 : decode cX0_keepRow 13 = .ok (.if_icmp .ge 46, 3) := by decide +kernel
theorem dX0_keepRow_16 : decode cX0_keepRow 16 = .ok (.iload 4, 2) := by decide +kernel
theorem dX0_keepRow_18 : decode cX0_keepRow 18 = .ok (.iload 5, 2) := by decide +kernel
theorem dX0_keepRow_20 : decode cX0_keepRow 20 = .ok (.iadd, 1) := by decide +kernel
theorem dX0_keepRow_21 : decode cX0_keepRow 21 = .ok (.istore 6, 2) := by decide +kernel
theorem dX0_keepRow_23 : decode cX0_keepRow 23 = .ok (.iload 6, 2) := by decide +kernel
theorem dX0_keepRow_25 : decode cX0_keepRow 25 = .ok (.ifCond .lt 28, 3) := by decide +kernel
theorem dX0_keepRow_28 : decode cX0_keepRow 28 = .ok (.iload 6, 2) := by decide +kernel
theorem dX0_keepRow_30 : decode cX0_keepRow 30 = .ok (.aload_n 0, 1) := by decide +kernel
theorem dX0_keepRow_31 : decode cX0_keepRow 31 = .ok (.getfield 9, 3) := by decide +kernel
theorem dX0_keepRow_34 : decode cX0_keepRow 34 = .ok (.arraylength, 1) := by decide +kernel
theorem dX0_keepRow_35 : decode cX0_keepRow 35 = .ok (.if_icmp .ge 18, 3) := by decide +kernel
theorem dX0_keepRow_38 : decode cX0_keepRow 38 = .ok (.aload_n 0, 1) := by decide +kernel
theorem dX0_keepRow_39 : decode cX0_keepRow 39 = .ok (.getfield 9, 3) := by decide +kernel
theorem dX0_keepRow_42 : decode cX0_keepRow 42 = .ok (.iload 6, 2) := by decide +kernel
theorem dX0_keepRow_44 : decode cX0_keepRow 44 = .ok (.aload_n 2, 1) := by decide +kernel
theorem dX0_keepRow_45 : decode cX0_keepRow 45 = .ok (.iload 5, 2) := by decide +kernel
theorem dX0_keepRow_47 : decode cX0_keepRow 47 = .ok (.iaload, 1) := by decide +kernel
theorem dX0_keepRow_48 : decode cX0_keepRow 48 = .ok (.iload_n 3, 1) := by decide +kernel
theorem dX0_keepRow_49 : decode cX0_keepRow 49 = .ok (.invokestatic 26, 3) := by decide +kernel
theorem dX0_keepRow_52 : decode cX0_keepRow 52 = .ok (.iastore, 1) := by decide +kernel
theorem dX0_keepRow_53 : decode cX0_keepRow 53 = .ok (.iinc 5 1, 3) := by decide +kernel
theorem dX0_keepRow_56 : decode cX0_keepRow 56 = .ok (.goto (-47), 3) := by decide +kernel
theorem dX0_keepRow_59 : decode cX0_keepRow 59 = .ok (.return_, 1) := by decide +kernel
theorem dX1_init_0 : decode cX1_init 0 = .ok (.aload_n 0, 1) := by decide +kernel
theorem dX1_init_1 : decode cX1_init 1 = .ok (.invokespecial 3, 3) := by decide +kernel
theorem dX1_init_4 : decode cX1_init 4 = .ok (.aload_n 0, 1) := by decide +kernel
theorem dX1_init_5 : decode cX1_init 5 = .ok (.bipush 50, 2) := by decide +kernel
theorem dX1_init_7 : decode cX1_init 7 = .ok (.newarray .int, 2) := by decide +kernel
theorem dX1_init_9 : decode cX1_init 9 = .ok (.putfield 9, 3) := by decide +kernel
theorem dX1_init_12 : decode cX1_init 12 = .ok (.aload_n 0, 1) := by decide +kernel
theorem dX1_init_13 : decode cX1_init 13 = .ok (.bipush 50, 2) := by decide +kernel
theorem dX1_init_15 : decode cX1_init 15 = .ok (.newarray .int, 2) := by decide +kernel
theorem dX1_init_17 : decode cX1_init 17 = .ok (.putfield 15, 3) := by decide +kernel
theorem dX1_init_20 : decode cX1_init 20 = .ok (.aload_n 0, 1) := by decide +kernel
theorem dX1_init_21 : decode cX1_init 21 = .ok (.bipush 50, 2) := by decide +kernel
theorem dX1_init_23 : decode cX1_init 23 = .ok (.newarray .int, 2) := by decide +kernel
theorem dX1_init_25 : decode cX1_init 25 = .ok (.putfield 18, 3) := by decide +kernel
theorem dX1_init_28 : decode cX1_init 28 = .ok (.aload_n 0, 1) := by decide +kernel
theorem dX1_init_29 : decode cX1_init 29 = .ok (.bipush 16, 2) := by decide +kernel
theorem dX1_init_31 : decode cX1_init 31 = .ok (.newarray .int, 2) := by decide +kernel
theorem dX1_init_33 : decode cX1_init 33 = .ok (.putfield 21, 3) := by decide +kernel
theorem dX1_init_36 : decode cX1_init 36 = .ok (.aload_n 0, 1) := by decide +kernel
theorem dX1_init_37 : decode cX1_init 37 = .ok (.bipush 16, 2) := by decide +kernel
theorem dX1_init_39 : decode cX1_init 39 = .ok (.newarray .int, 2) := by decide +kernel
theorem dX1_init_41 : decode cX1_init 41 = .ok (.putfield 24, 3) := by decide +kernel
theorem dX1_init_44 : decode cX1_init 44 = .ok (.return_, 1) := by decide +kernel
theorem dX1_run_0 : decode cX1_run 0 = .ok (.aload_n 1, 1) := by decide +kernel
theorem dX1_run_1 : decode cX1_run 1 = .ok (.iload_n 2, 1) := by decide +kernel
theorem dX1_run_2 : decode cX1_run 2 = .ok (.invokevirtual 27, 3) := by decide +kernel
theorem dX1_run_5 : decode cX1_run 5 = .ok (.astore_n 3, 1) := by decide +kernel
theorem dX1_run_6 : decode cX1_run 6 = .ok (.aload_n 0, 1) := by decide +kernel
theorem dX1_run_7 : decode cX1_run 7 = .ok (.iconst 0, 1) := by decide +kernel
theorem dX1_run_8 : decode cX1_run 8 = .ok (.putfield 33, 3) := by decide +kernel
theorem dX1_run_11 : decode cX1_run 11 = .ok (.aload_n 3, 1) := by decide +kernel
theorem dX1_run_12 : decode cX1_run 12 = .ok (.ifnonnull 4, 3) := by decide +kernel
theorem dX1_run_15 : decode cX1_run 15 = .ok (.return_, 1) := by decide +kernel
theorem dX1_run_16 : decode cX1_run 16 = .ok (.aload_n 0, 1) := by decide +kernel
theorem dX1_run_17 : decode cX1_run 17 = .ok (.aload_n 1, 1) := by decide +kernel
theorem dX1_run_18 : decode cX1_run 18 = .ok (.iload_n 2, 1) := by decide +kernel
theorem dX1_run_19 : decode cX1_run 19 = .ok (.invokevirtual 37, 3) := by decide +kernel
theorem dX1_run_22 : decode cX1_run 22 = .ok (.sipush (-1000), 3) := by decide +kernel
theorem dX1_run_25 : decode cX1_run 25 = .ok (.istore 4, 2) := by decide +kernel
theorem dX1_run_27 : decode cX1_run 27 = .ok (.iload 4, 2) := by decide +kernel
theorem dX1_run_29 : decode cX1_run 29 = .ok (.sipush 2400, 3) := by decide +kernel
theorem dX1_run_32 : decode cX1_run 32 = .ok (.if_icmp .gt 49, 3) := by decide +kernel
theorem dX1_run_35 : decode cX1_run 35 = .ok (.bipush (-100), 2) := by decide +kernel
theorem dX1_run_37 : decode cX1_run 37 = .ok (.istore 5, 2) := by decide +kernel
theorem dX1_run_39 : decode cX1_run 39 = .ok (.iload 5, 2) := by decide +kernel
theorem dX1_run_41 : decode cX1_run 41 = .ok (.bipush 100, 2) := by decide +kernel
theorem dX1_run_43 : decode cX1_run 43 = .ok (.if_icmp .gt 32, 3) := by decide +kernel
theorem dX1_run_46 : decode cX1_run 46 = .ok (.aload_n 0, 1) := by decide +kernel
theorem dX1_run_47 : decode cX1_run 47 = .ok (.iload 4, 2) := by decide +kernel
theorem dX1_run_49 : decode cX1_run 49 = .ok (.iload 5, 2) := by decide +kernel
theorem dX1_run_51 : decode cX1_run 51 = .ok (.aload_n 3, 1) := by decide +kernel
theorem dX1_run_52 : decode cX1_run 52 = .ok (.getfield 41, 3) := by decide +kernel
theorem dX1_run_55 : decode cX1_run 55 = .ok (.invokevirtual 46, 3) := by decide +kernel
theorem dX1_run_58 : decode cX1_run 58 = .ok (.ifCond .eq 11, 3) := by decide +kernel
theorem dX1_run_61 : decode cX1_run 61 = .ok (.aload_n 0, 1) := by decide +kernel
theorem dX1_run_62 : decode cX1_run 62 = .ok (.iload 4, 2) := by decide +kernel
theorem dX1_run_64 : decode cX1_run 64 = .ok (.iload 5, 2) := by decide +kernel
theorem dX1_run_66 : decode cX1_run 66 = .ok (.invokevirtual 50, 3) := by decide +kernel
theorem dX1_run_69 : decode cX1_run 69 = .ok (.iinc 5 10, 3) := by decide +kernel
theorem dX1_run_72 : decode cX1_run 72 = .ok (.goto (-33), 3) := by decide +kernel
theorem dX1_run_75 : decode cX1_run 75 = .ok (.iinc 4 100, 3) := by decide +kernel
theorem dX1_run_78 : decode cX1_run 78 = .ok (.goto (-51), 3) := by decide +kernel
theorem dX1_run_81 : decode cX1_run 81 = .ok (.return_, 1) := by decide +kernel
theorem dX1_isVain_0 : decode cX1_isVain 0 = .ok (.aload_n 0, 1) := by decide +kernel
theorem dX1_isVain_1 : decode cX1_isVain 1 = .ok (.getfield 33, 3) := by decide +kernel
theorem dX1_isVain_4 : decode cX1_isVain 4 = .ok (.ifCond .ne 7, 3) := by decide +kernel
theorem dX1_isVain_7 : decode cX1_isVain 7 = .ok (.iconst 1, 1) := by decide +kernel
theorem dX1_isVain_8 : decode cX1_isVain 8 = .ok (.goto 4, 3) := by decide +kernel
theorem dX1_isVain_11 : decode cX1_isVain 11 = .ok (.iconst 0, 1) := by decide +kernel
theorem dX1_isVain_12 : decode cX1_isVain 12 = .ok (.ireturn, 1) := by decide +kernel
theorem dX1_answer_0 : decode cX1_answer 0 = .ok (.iload_n 1, 1) := by decide +kernel
theorem dX1_answer_1 : decode cX1_answer 1 = .ok (.tableswitch 51 0 3 #[31, 36, 41, 46], 31) := by decide +kernel
theorem dX1_answer_32 : decode cX1_answer 32 = .ok (.aload_n 0, 1) := by decide +kernel
theorem dX1_answer_33 : decode cX1_answer 33 = .ok (.getfield 33, 3) := by decide +kernel
theorem dX1_answer_36 : decode cX1_answer 36 = .ok (.ireturn, 1) := by decide +kernel
theorem dX1_answer_37 : decode cX1_answer 37 = .ok (.aload_n 0, 1) := by decide +kernel
theorem dX1_answer_38 : decode cX1_answer 38 = .ok (.getfield 54, 3) := by decide +kernel
theorem dX1_answer_41 : decode cX1_answer 41 = .ok (.ireturn, 1) := by decide +kernel
theorem dX1_answer_42 : decode cX1_answer 42 = .ok (.aload_n 0, 1) := by decide +kernel
theorem dX1_answer_43 : decode cX1_answer 43 = .ok (.getfield 57, 3) := by decide +kernel
theorem dX1_answer_46 : decode cX1_answer 46 = .ok (.ireturn, 1) := by decide +kernel
theorem dX1_answer_47 : decode cX1_answer 47 = .ok (.aload_n 0, 1) := by decide +kernel
theorem dX1_answer_48 : decode cX1_answer 48 = .ok (.getfield 60, 3) := by decide +kernel
theorem dX1_answer_51 : decode cX1_answer 51 = .ok (.ireturn, 1) := by decide +kernel
theorem dX1_answer_52 : decode cX1_answer 52 = .ok (.aload_n 0, 1) := by decide +kernel
theorem dX1_answer_53 : decode cX1_answer 53 = .ok (.getfield 63, 3) := by decide +kernel
theorem dX1_answer_56 : decode cX1_answer 56 = .ok (.ireturn, 1) := by decide +kernel
theorem dX1_gatherDemands_0 : decode cX1_gatherDemands 0 = .ok (.aload_n 0, 1) := by decide +kernel
theorem dX1_gatherDemands_1 : decode cX1_gatherDemands 1 = .ok (.iconst 0, 1) := by decide +kernel
theorem dX1_gatherDemands_2 : decode cX1_gatherDemands 2 = .ok (.putfield 66, 3) := by decide +kernel
theorem dX1_gatherDemands_5 : decode cX1_gatherDemands 5 = .ok (.iconst 0, 1) := by decide +kernel
theorem dX1_gatherDemands_6 : decode cX1_gatherDemands 6 = .ok (.istore_n 3, 1) := by decide +kernel
theorem dX1_gatherDemands_7 : decode cX1_gatherDemands 7 = .ok (.iload_n 3, 1) := by decide +kernel
theorem dX1_gatherDemands_8 : decode cX1_gatherDemands 8 = .ok (.aload_n 1, 1) := by decide +kernel
theorem dX1_gatherDemands_9 : decode cX1_gatherDemands 9 = .ok (.getfield 69, 3) := by decide +kernel
theorem dX1_gatherDemands_12 : decode cX1_gatherDemands 12 = .ok (.if_icmp .ge 63, 3) := by decide +kernel
theorem dX1_gatherDemands_15 : decode cX1_gatherDemands 15 = .ok (.aload_n 1, 1) := by decide +kernel
theorem dX1_gatherDemands_16 : decode cX1_gatherDemands 16 = .ok (.iload_n 3, 1) := by decide +kernel
theorem dX1_gatherDemands_17 : decode cX1_gatherDemands 17 = .ok (.invokevirtual 72, 3) := by decide +kernel
theorem dX1_gatherDemands_20 : decode cX1_gatherDemands 20 = .ok (.astore 4, 2) := by decide +kernel
theorem dX1_gatherDemands_22 : decode cX1_gatherDemands 22 = .ok (.iconst 0, 1) := by decide +kernel
theorem dX1_gatherDemands_23 : decode cX1_gatherDemands 23 = .ok (.istore 5, 2) := by decide +kernel
theorem dX1_gatherDemands_25 : decode cX1_gatherDemands 25 = .ok (.aload 4, 2) := by decide +kernel
theorem dX1_gatherDemands_27 : decode cX1_gatherDemands 27 = .ok (.ifnull 42, 3) := by decide +kernel
theorem dX1_gatherDemands_30 : decode cX1_gatherDemands 30 = .ok (.iload 5, 2) := by decide +kernel
theorem dX1_gatherDemands_32 : decode cX1_gatherDemands 32 = .ok (.aload_n 1, 1) := by decide +kernel
theorem dX1_gatherDemands_33 : decode cX1_gatherDemands 33 = .ok (.iconst 0, 1) := by decide +kernel
theorem dX1_gatherDemands_34 : decode cX1_gatherDemands 34 = .ok (.invokevirtual 76, 3) := by decide +kernel
theorem dX1_gatherDemands_37 : decode cX1_gatherDemands 37 = .ok (.if_icmp .ge 32, 3) := by decide +kernel
theorem dX1_gatherDemands_40 : decode cX1_gatherDemands 40 = .ok (.aload 4, 2) := by decide +kernel
theorem dX1_gatherDemands_42 : decode cX1_gatherDemands 42 = .ok (.getfield 80, 3) := by decide +kernel
theorem dX1_gatherDemands_45 : decode cX1_gatherDemands 45 = .ok (.iload 5, 2) := by decide +kernel
theorem dX1_gatherDemands_47 : decode cX1_gatherDemands 47 = .ok (.invokestatic 85, 3) := by decide +kernel
theorem dX1_gatherDemands_50 : decode cX1_gatherDemands 50 = .ok (.ifCond .ne 13, 3) := by decide +kernel
theorem dX1_gatherDemands_53 : decode cX1_gatherDemands 53 = .ok (.aload_n 0, 1) := by decide +kernel
theorem dX1_gatherDemands_54 : decode cX1_gatherDemands 54 = .ok (.aload_n 1, 1) := by decide +kernel
theorem dX1_gatherDemands_55 : decode cX1_gatherDemands 55 = .ok (.iload_n 2, 1) := by decide +kernel
theorem dX1_gatherDemands_56 : decode cX1_gatherDemands 56 = .ok (.aload 4, 2) := by decide +kernel
theorem dX1_gatherDemands_58 : decode cX1_gatherDemands 58 = .ok (.iload 5, 2) := by decide +kernel
theorem dX1_gatherDemands_60 : decode cX1_gatherDemands 60 = .ok (.invokevirtual 89, 3) := by decide +kernel
theorem dX1_gatherDemands_63 : decode cX1_gatherDemands 63 = .ok (.iinc 5 1, 3) := by decide +kernel
theorem dX1_gatherDemands_66 : decode cX1_gatherDemands 66 = .ok (.goto (-41), 3) := by decide +kernel
theorem dX1_gatherDemands_69 : decode cX1_gatherDemands 69 = .ok (.iinc 3 1, 3) := by decide +kernel
theorem dX1_gatherDemands_72 : decode cX1_gatherDemands 72 = .ok (.goto (-65), 3) := by decide +kernel
theorem dX1_gatherDemands_75 : decode cX1_gatherDemands 75 = .ok (.return_, 1) := by decide +kernel
theorem dX1_addDemand_0 : decode cX1_addDemand 0 = .ok (.aload_n 1, 1) := by decide +kernel
theorem dX1_addDemand_1 : decode cX1_addDemand 1 = .ok (.aload_n 3, 1) := by decide +kernel
theorem dX1_addDemand_2 : decode cX1_addDemand 2 = .ok (.iload 4, 2) := by decide +kernel
theorem dX1_addDemand_4 : decode cX1_addDemand 4 = .ok (.invokevirtual 93, 3) := by decide +kernel
theorem dX1_addDemand_7 : decode cX1_addDemand 7 = .ok (.istore 5, 2) := by decide +kernel
theorem dX1_addDemand_9 : decode cX1_addDemand 9 = .ok (.aload_n 1, 1) := by decide +kernel
theorem dX1_addDemand_10 : decode cX1_addDemand 10 = .ok (.iload 5, 2) := by decide +kernel
theorem dX1_addDemand_12 : decode cX1_addDemand 12 = .ok (.invokevirtual 97, 3) := by decide +kernel
theorem dX1_addDemand_15 : decode cX1_addDemand 15 = .ok (.istore 6, 2) := by decide +kernel
theorem dX1_addDemand_17 : decode cX1_addDemand 17 = .ok (.iconst 0, 1) := by decide +kernel
theorem dX1_addDemand_18 : decode cX1_addDemand 18 = .ok (.istore 7, 2) := by decide +kernel
theorem dX1_addDemand_20 : decode cX1_addDemand 20 = .ok (.iconst 0, 1) := by decide +kernel
theorem dX1_addDemand_21 : decode cX1_addDemand 21 = .ok (.istore 8, 2) := by decide +kernel
theorem dX1_addDemand_23 : decode cX1_addDemand 23 = .ok (.aload_n 1, 1) := by decide +kernel
theorem dX1_addDemand_24 : decode cX1_addDemand 24 = .ok (.iload 4, 2) := by decide +kernel
theorem dX1_addDemand_26 : decode cX1_addDemand 26 = .ok (.iload 5, 2) := by decide +kernel
theorem dX1_addDemand_28 : decode cX1_addDemand 28 = .ok (.iload_n 2, 1) := by decide +kernel
theorem dX1_addDemand_29 : decode cX1_addDemand 29 = .ok (.iconst 0, 1) := by decide +kernel
theorem dX1_addDemand_30 : decode cX1_addDemand 30 = .ok (.aload_n 0, 1) := by decide +kernel
theorem dX1_addDemand_31 : decode cX1_addDemand 31 = .ok (.getfield 21, 3) := by decide +kernel
theorem dX1_addDemand_34 : decode cX1_addDemand 34 = .ok (.invokevirtual 100, 3) := by decide +kernel
theorem dX1_addDemand_37 : decode cX1_addDemand 37 = .ok (.aload_n 1, 1) := by decide +kernel
theorem dX1_addDemand_38 : decode cX1_addDemand 38 = .ok (.iload 4, 2) := by decide +kernel
theorem dX1_addDemand_40 : decode cX1_addDemand 40 = .ok (.iload 5, 2) := by decide +kernel
theorem dX1_addDemand_42 : decode cX1_addDemand 42 = .ok (.iload_n 2, 1) := by decide +kernel
theorem dX1_addDemand_43 : decode cX1_addDemand 43 = .ok (.ldc 104, 2) := by decide +kernel
theorem dX1_addDemand_45 : decode cX1_addDemand 45 = .ok (.aload_n 0, 1) := by decide +kernel
theorem dX1_addDemand_46 : decode cX1_addDemand 46 = .ok (.getfield 24, 3) := by decide +kernel
theorem dX1_addDemand_49 : decode cX1_addDemand 49 = .ok (.invokevirtual 100, 3) := by decide +kernel
theorem dX1_addDemand_52 : decode cX1_addDemand 52 = .ok (.iconst 0, 1) := by decide +kernel
theorem dX1_addDemand_53 : decode cX1_addDemand 53 = .ok (.istore 9, 2) := by decide +kernel
theorem dX1_addDemand_55 : decode cX1_addDemand 55 = .ok (.iload 9, 2) := by decide +kernel
theorem dX1_addDemand_57 : decode cX1_addDemand 57 = .ok (.aload_n 1, 1) := by decide +kernel
theorem dX1_addDemand_58 : decode cX1_addDemand 58 = .ok (.iconst 1, 1) := by decide +kernel
theorem dX1_addDemand_59 : decode cX1_addDemand 59 = .ok (.invokevirtual 76, 3) := by decide +kernel
theorem dX1_addDemand_62 : decode cX1_addDemand 62 = .ok (.if_icmp .ge 75, 3) := by decide +kernel
theorem dX1_addDemand_65 : decode cX1_addDemand 65 = .ok (.aload_n 3, 1) := by decide +kernel
theorem dX1_addDemand_66 : decode cX1_addDemand 66 = .ok (.iload 4, 2) := by decide +kernel
theorem dX1_addDemand_68 : decode cX1_addDemand 68 = .ok (.iload 9, 2) := by decide +kernel
theorem dX1_addDemand_70 : decode cX1_addDemand 70 = .ok (.invokevirtual 105, 3) := by decide +kernel
theorem dX1_addDemand_73 : decode cX1_addDemand 73 = .ok (.istore 10, 2) := by decide +kernel
theorem dX1_addDemand_75 : decode cX1_addDemand 75 = .ok (.aload_n 0, 1) := by decide +kernel
theorem dX1_addDemand_76 : decode cX1_addDemand 76 = .ok (.getfield 21, 3) := by decide +kernel
theorem dX1_addDemand_79 : decode cX1_addDemand 79 = .ok (.iload 9, 2) := by decide +kernel
theorem dX1_addDemand_81 : decode cX1_addDemand 81 = .ok (.invokestatic 109, 3) := by decide +kernel
theorem dX1_addDemand_84 : decode cX1_addDemand 84 = .ok (.iload 6, 2) := by decide +kernel
theorem dX1_addDemand_86 : decode cX1_addDemand 86 = .ok (.invokestatic 113, 3) := by decide +kernel
theorem dX1_addDemand_89 : decode cX1_addDemand 89 = .ok (.iload 10, 2) := by decide +kernel
theorem dX1_addDemand_91 : decode cX1_addDemand 91 = .ok (.if_icmp .eq 12, 3) := by decide +kernel
theorem dX1_addDemand_94 : decode cX1_addDemand 94 = .ok (.iload 7, 2) := by decide +kernel
theorem dX1_addDemand_96 : decode cX1_addDemand 96 = .ok (.iconst 1, 1) := by decide +kernel
theorem dX1_addDemand_97 : decode cX1_addDemand 97 = .ok (.iload 9, 2) := by decide +kernel
theorem dX1_addDemand_99 : decode cX1_addDemand 99 = .ok (.ishl, 1) := by decide +kernel
theorem dX1_addDemand_100 : decode cX1_addDemand 100 = .ok (.ior, 1) := by decide +kernel
theorem dX1_addDemand_101 : decode cX1_addDemand 101 = .ok (.istore 7, 2) := by decide +kernel
theorem dX1_addDemand_103 : decode cX1_addDemand 103 = .ok (.aload_n 0, 1) := by decide +kernel
theorem dX1_addDemand_104 : decode cX1_addDemand 104 = .ok (.getfield 24, 3) := by decide +kernel
theorem dX1_addDemand_107 : decode cX1_addDemand 107 = .ok (.iload 9, 2) := by decide +kernel
theorem dX1_addDemand_109 : decode cX1_addDemand 109 = .ok (.invokestatic 109, 3) := by decide +kernel
theorem dX1_addDemand_112 : decode cX1_addDemand 112 = .ok (.iload 6, 2) := by decide +kernel
theorem dX1_addDemand_114 : decode cX1_addDemand 114 = .ok (.invokestatic 113, 3) := by decide +kernel
theorem dX1_addDemand_117 : decode cX1_addDemand 117 = .ok (.iload 10, 2) := by decide +kernel
theorem dX1_addDemand_119 : decode cX1_addDemand 119 = .ok (.if_icmp .eq 12, 3) := by decide +kernel
theorem dX1_addDemand_122 : decode cX1_addDemand 122 = .ok (.iload 8, 2) := by decide +kernel
theorem dX1_addDemand_124 : decode cX1_addDemand 124 = .ok (.iconst 1, 1) := by decide +kernel
theorem dX1_addDemand_125 : decode cX1_addDemand 125 = .ok (.iload 9, 2) := by decide +kernel
theorem dX1_addDemand_127 : decode cX1_addDemand 127 = .ok (.ishl, 1) := by decide +kernel
theorem dX1_addDemand_128 : decode cX1_addDemand 128 = .ok (.ior, 1) := by decide +kernel
theorem dX1_addDemand_129 : decode cX1_addDemand 129 = .ok (.istore 8, 2) := by decide +kernel
theorem dX1_addDemand_131 : decode cX1_addDemand 131 = .ok (.iinc 9 1, 3) := by decide +kernel
theorem dX1_addDemand_134 : decode cX1_addDemand 134 = .ok (.goto (-79), 3) := by decide +kernel
theorem dX1_addDemand_137 : decode cX1_addDemand 137 = .ok (.aload_n 0, 1) := by decide +kernel
theorem dX1_addDemand_138 : decode cX1_addDemand 138 = .ok (.getfield 66, 3) := by decide +kernel
theorem dX1_addDemand_141 : decode cX1_addDemand 141 = .ok (.aload_n 0, 1) := by decide +kernel
theorem dX1_addDemand_142 : decode cX1_addDemand 142 = .ok (.getfield 9, 3) := by decide +kernel
theorem dX1_addDemand_145 : decode cX1_addDemand 145 = .ok (.arraylength, 1) := by decide +kernel
theorem dX1_addDemand_146 : decode cX1_addDemand 146 = .ok (.if_icmp .ge 70, 3) := by decide +kernel
theorem dX1_addDemand_149 : decode cX1_addDemand 149 = .ok (.aload_n 0, 1) := by decide +kernel
theorem dX1_addDemand_150 : decode cX1_addDemand 150 = .ok (.getfield 66, 3) := by decide +kernel
theorem dX1_addDemand_153 : decode cX1_addDemand 153 = .ok (.aload_n 0, 1) := by decide +kernel
theorem dX1_addDemand_154 : decode cX1_addDemand 154 = .ok (.getfield 15, 3) := by decide +kernel
theorem dX1_addDemand_157 : decode cX1_addDemand 157 = .ok (.arraylength, 1) := by decide +kernel
theorem dX1_addDemand_158 : decode cX1_addDemand 158 = .ok (.if_icmp .ge 58, 3) := by decide +kernel
theorem dX1_addDemand_161 : decode cX1_addDemand 161 = .ok (.aload_n 0, 1) := by decide +kernel
theorem dX1_addDemand_162 : decode cX1_addDemand 162 = .ok (.getfield 66, 3) := by decide +kernel
theorem dX1_addDemand_165 : decode cX1_addDemand 165 = .ok (.aload_n 0, 1) := by decide +kernel
theorem dX1_addDemand_166 : decode cX1_addDemand 166 = .ok (.getfield 18, 3) := by decide +kernel
theorem dX1_addDemand_169 : decode cX1_addDemand 169 = .ok (.arraylength, 1) := by decide +kernel
theorem dX1_addDemand_170 : decode cX1_addDemand 170 = .ok (.if_icmp .ge 46, 3) := by decide +kernel
theorem dX1_addDemand_173 : decode cX1_addDemand 173 = .ok (.aload_n 0, 1) := by decide +kernel
theorem dX1_addDemand_174 : decode cX1_addDemand 174 = .ok (.getfield 9, 3) := by decide +kernel
theorem dX1_addDemand_177 : decode cX1_addDemand 177 = .ok (.aload_n 0, 1) := by decide +kernel
theorem dX1_addDemand_178 : decode cX1_addDemand 178 = .ok (.getfield 66, 3) := by decide +kernel
theorem dX1_addDemand_181 : decode cX1_addDemand 181 = .ok (.iload 5, 2) := by decide +kernel
theorem dX1_addDemand_183 : decode cX1_addDemand 183 = .ok (.iastore, 1) := by decide +kernel
theorem dX1_addDemand_184 : decode cX1_addDemand 184 = .ok (.aload_n 0, 1) := by decide +kernel
theorem dX1_addDemand_185 : decode cX1_addDemand 185 = .ok (.getfield 15, 3) := by decide +kernel
theorem dX1_addDemand_188 : decode cX1_addDemand 188 = .ok (.aload_n 0, 1) := by decide +kernel
theorem dX1_addDemand_189 : decode cX1_addDemand 189 = .ok (.getfield 66, 3) := by decide +kernel
theorem dX1_addDemand_192 : decode cX1_addDemand 192 = .ok (.iload 7, 2) := by decide +kernel
theorem dX1_addDemand_194 : decode cX1_addDemand 194 = .ok (.iastore, 1) := by decide +kernel
theorem dX1_addDemand_195 : decode cX1_addDemand 195 = .ok (.aload_n 0, 1) := by decide +kernel
theorem dX1_addDemand_196 : decode cX1_addDemand 196 = .ok (.getfield 18, 3) := by decide +kernel
theorem dX1_addDemand_199 : decode cX1_addDemand 199 = .ok (.aload_n 0, 1) := by decide +kernel
theorem dX1_addDemand_200 : decode cX1_addDemand 200 = .ok (.getfield 66, 3) := by decide +kernel
theorem dX1_addDemand_203 : decode cX1_addDemand 203 = .ok (.iload 8, 2) := by decide +kernel
theorem dX1_addDemand_205 : decode cX1_addDemand 205 = .ok (.iastore, 1) := by decide +kernel
theorem dX1_addDemand_206 : decode cX1_addDemand 206 = .ok (.aload_n 0, 1) := by decide +kernel
theorem dX1_addDemand_207 : decode cX1_addDemand 207 = .ok (.dup, 1) := by decide +kernel
theorem dX1_addDemand_208 : decode cX1_addDemand 208 = .ok (.getfield 66, 3) := by decide +kernel
theorem dX1_addDemand_211 : decode cX1_addDemand 211 = .ok (.iconst 1, 1) := by decide +kernel
theorem dX1_addDemand_212 : decode cX1_addDemand 212 = .ok (.iadd, 1) := by decide +kernel
theorem dX1_addDemand_213 : decode cX1_addDemand 213 = .ok (.putfield 66, 3) := by decide +kernel
theorem dX1_addDemand_216 : decode cX1_addDemand 216 = .ok (.return_, 1) := by decide +kernel
theorem dX1_meetsDemands_0 : decode cX1_meetsDemands 0 = .ok (.iconst 0, 1) := by decide +kernel
theorem dX1_meetsDemands_1 : decode cX1_meetsDemands 1 = .ok (.istore 4, 2) := by decide +kernel
theorem dX1_meetsDemands_3 : decode cX1_meetsDemands 3 = .ok (.iload 4, 2) := by decide +kernel
theorem dX1_meetsDemands_5 : decode cX1_meetsDemands 5 = .ok (.aload_n 0, 1) := by decide +kernel
theorem dX1_meetsDemands_6 : decode cX1_meetsDemands 6 = .ok (.getfield 66, 3) := by decide +kernel
theorem dX1_meetsDemands_9 : decode cX1_meetsDemands 9 = .ok (.if_icmp .ge 62, 3) := by decide +kernel
theorem dX1_meetsDemands_12 : decode cX1_meetsDemands 12 = .ok (.iload_n 1, 1) := by decide +kernel
theorem dX1_meetsDemands_13 : decode cX1_meetsDemands 13 = .ok (.iload_n 2, 1) := by decide +kernel
theorem dX1_meetsDemands_14 : decode cX1_meetsDemands 14 = .ok (.aload_n 0, 1) := by decide +kernel
theorem dX1_meetsDemands_15 : decode cX1_meetsDemands 15 = .ok (.getfield 9, 3) := by decide +kernel
theorem dX1_meetsDemands_18 : decode cX1_meetsDemands 18 = .ok (.iload 4, 2) := by decide +kernel
theorem dX1_meetsDemands_20 : decode cX1_meetsDemands 20 = .ok (.invokestatic 109, 3) := by decide +kernel
theorem dX1_meetsDemands_23 : decode cX1_meetsDemands 23 = .ok (.imul, 1) := by decide +kernel
theorem dX1_meetsDemands_24 : decode cX1_meetsDemands 24 = .ok (.iadd, 1) := by decide +kernel
theorem dX1_meetsDemands_25 : decode cX1_meetsDemands 25 = .ok (.iload_n 3, 1) := by decide +kernel
theorem dX1_meetsDemands_26 : decode cX1_meetsDemands 26 = .ok (.invokestatic 116, 3) := by decide +kernel
theorem dX1_meetsDemands_29 : decode cX1_meetsDemands 29 = .ok (.istore 5, 2) := by decide +kernel
theorem dX1_meetsDemands_31 : decode cX1_meetsDemands 31 = .ok (.iload 5, 2) := by decide +kernel
theorem dX1_meetsDemands_33 : decode cX1_meetsDemands 33 = .ok (.aload_n 0, 1) := by decide +kernel
theorem dX1_meetsDemands_34 : decode cX1_meetsDemands 34 = .ok (.getfield 18, 3) := by decide +kernel
theorem dX1_meetsDemands_37 : decode cX1_meetsDemands 37 = .ok (.iload 4, 2) := by decide +kernel
theorem dX1_meetsDemands_39 : decode cX1_meetsDemands 39 = .ok (.invokestatic 109, 3) := by decide +kernel
theorem dX1_meetsDemands_42 : decode cX1_meetsDemands 42 = .ok (.iand, 1) := by decide +kernel
theorem dX1_meetsDemands_43 : decode cX1_meetsDemands 43 = .ok (.ifCond .ne 20, 3) := by decide +kernel
theorem dX1_meetsDemands_46 : decode cX1_meetsDemands 46 = .ok (.aload_n 0, 1) := by decide +kernel
theorem dX1_meetsDemands_47 : decode cX1_meetsDemands 47 = .ok (.getfield 15, 3) := by decide +kernel
theorem dX1_meetsDemands_50 : decode cX1_meetsDemands 50 = .ok (.iload 4, 2) := by decide +kernel
theorem dX1_meetsDemands_52 : decode cX1_meetsDemands 52 = .ok (.invokestatic 109, 3) := by decide +kernel
theorem dX1_meetsDemands_55 : decode cX1_meetsDemands 55 = .ok (.iload 5, 2) := by decide +kernel
theorem dX1_meetsDemands_57 : decode cX1_meetsDemands 57 = .ok (.iconst (-1), 1) := by decide +kernel
theorem dX1_meetsDemands_58 : decode cX1_meetsDemands 58 = .ok (.ixor, 1) := by decide +kernel
theorem dX1_meetsDemands_59 : decode cX1_meetsDemands 59 = .ok (.iand, 1) := by decide +kernel
theorem dX1_meetsDemands_60 : decode cX1_meetsDemands 60 = .ok (.ifCond .eq 5, 3) := by decide +kernel
theorem dX1_meetsDemands_63 : decode cX1_meetsDemands 63 = .ok (.iconst 0, 1) := by decide +kernel
theorem dX1_meetsDemands_64 : decode cX1_meetsDemands 64 = .ok (.ireturn, 1) := by decide +kernel
theorem dX1_meetsDemands_65 : decode cX1_meetsDemands 65 = .ok (.iinc 4 1, 3) := by decide +kernel
theorem dX1_meetsDemands_68 : decode cX1_meetsDemands 68 = .ok (.goto (-65), 3) := by decide +kernel
theorem dX1_meetsDemands_71 : decode cX1_meetsDemands 71 = .ok (.iconst 1, 1) := by decide +kernel
theorem dX1_meetsDemands_72 : decode cX1_meetsDemands 72 = .ok (.ireturn, 1) := by decide +kernel
theorem dX1_keepMotion_0 : decode cX1_keepMotion 0 = .ok (.aload_n 0, 1) := by decide +kernel
theorem dX1_keepMotion_1 : decode cX1_keepMotion 1 = .ok (.getfield 33, 3) := by decide +kernel
theorem dX1_keepMotion_4 : decode cX1_keepMotion 4 = .ok (.ifCond .ne 13, 3) := by decide +kernel
theorem dX1_keepMotion_7 : decode cX1_keepMotion 7 = .ok (.aload_n 0, 1) := by decide +kernel
theorem dX1_keepMotion_8 : decode cX1_keepMotion 8 = .ok (.iload_n 1, 1) := by decide +kernel
theorem dX1_keepMotion_9 : decode cX1_keepMotion 9 = .ok (.putfield 54, 3) := by decide +kernel
theorem dX1_keepMotion_12 : decode cX1_keepMotion 12 = .ok (.aload_n 0, 1) := by decide +kernel
theorem dX1_keepMotion_13 : decode cX1_keepMotion 13 = .ok (.iload_n 2, 1) := by decide +kernel
theorem dX1_keepMotion_14 : decode cX1_keepMotion 14 = .ok (.putfield 57, 3) := by decide +kernel
theorem dX1_keepMotion_17 : decode cX1_keepMotion 17 = .ok (.aload_n 0, 1) := by decide +kernel
theorem dX1_keepMotion_18 : decode cX1_keepMotion 18 = .ok (.iload_n 1, 1) := by decide +kernel
theorem dX1_keepMotion_19 : decode cX1_keepMotion 19 = .ok (.putfield 60, 3) := by decide +kernel
theorem dX1_keepMotion_22 : decode cX1_keepMotion 22 = .ok (.aload_n 0, 1) := by decide +kernel
theorem dX1_keepMotion_23 : decode cX1_keepMotion 23 = .ok (.iload_n 2, 1) := by decide +kernel
theorem dX1_keepMotion_24 : decode cX1_keepMotion 24 = .ok (.putfield 63, 3) := by decide +kernel
theorem dX1_keepMotion_27 : decode cX1_keepMotion 27 = .ok (.aload_n 0, 1) := by decide +kernel
theorem dX1_keepMotion_28 : decode cX1_keepMotion 28 = .ok (.dup, 1) := by decide +kernel
theorem dX1_keepMotion_29 : decode cX1_keepMotion 29 = .ok (.getfield 33, 3) := by decide +kernel
theorem dX1_keepMotion_32 : decode cX1_keepMotion 32 = .ok (.iconst 1, 1) := by decide +kernel
theorem dX1_keepMotion_33 : decode cX1_keepMotion 33 = .ok (.iadd, 1) := by decide +kernel
theorem dX1_keepMotion_34 : decode cX1_keepMotion 34 = .ok (.putfield 33, 3) := by decide +kernel
theorem dX1_keepMotion_37 : decode cX1_keepMotion 37 = .ok (.return_, 1) := by decide +kernel
theorem dX2_init_0 : decode cX2_init 0 = .ok (.aload_n 0, 1) := by decide +kernel
theorem dX2_init_1 : decode cX2_init 1 = .ok (.invokespecial 3, 3) := by decide +kernel
theorem dX2_init_4 : decode cX2_init 4 = .ok (.aload_n 0, 1) := by decide +kernel
theorem dX2_init_5 : decode cX2_init 5 = .ok (.bipush 6, 2) := by decide +kernel
theorem dX2_init_7 : decode cX2_init 7 = .ok (.newarray .int, 2) := by decide +kernel
theorem dX2_init_9 : decode cX2_init 9 = .ok (.putfield 9, 3) := by decide +kernel
theorem dX2_init_12 : decode cX2_init 12 = .ok (.return_, 1) := by decide +kernel
theorem dX2_read_0 : decode cX2_read 0 = .ok (.aload_n 0, 1) := by decide +kernel
theorem dX2_read_1 : decode cX2_read 1 = .ok (.aload_n 1, 1) := by decide +kernel
theorem dX2_read_2 : decode cX2_read 2 = .ok (.iload_n 2, 1) := by decide +kernel
theorem dX2_read_3 : decode cX2_read 3 = .ok (.invokevirtual 15, 3) := by decide +kernel
theorem dX2_read_6 : decode cX2_read 6 = .ok (.putfield 21, 3) := by decide +kernel
theorem dX2_read_9 : decode cX2_read 9 = .ok (.aload_n 0, 1) := by decide +kernel
theorem dX2_read_10 : decode cX2_read 10 = .ok (.getfield 21, 3) := by decide +kernel
theorem dX2_read_13 : decode cX2_read 13 = .ok (.invokestatic 25, 3) := by decide +kernel
theorem dX2_read_16 : decode cX2_read 16 = .ok (.istore_n 3, 1) := by decide +kernel
theorem dX2_read_17 : decode cX2_read 17 = .ok (.aload_n 0, 1) := by decide +kernel
theorem dX2_read_18 : decode cX2_read 18 = .ok (.iload_n 3, 1) := by decide +kernel
theorem dX2_read_19 : decode cX2_read 19 = .ok (.ifCond .ge 7, 3) := by decide +kernel
theorem dX2_read_22 : decode cX2_read 22 = .ok (.iconst 1, 1) := by decide +kernel
theorem dX2_read_23 : decode cX2_read 23 = .ok (.goto 4, 3) := by decide +kernel
theorem dX2_read_26 : decode cX2_read 26 = .ok (.iconst 0, 1) := by decide +kernel
theorem dX2_read_27 : decode cX2_read 27 = .ok (.putfield 29, 3) := by decide +kernel
theorem dX2_read_30 : decode cX2_read 30 = .ok (.aload_n 0, 1) := by decide +kernel
theorem dX2_read_31 : decode cX2_read 31 = .ok (.aload_n 0, 1) := by decide +kernel
theorem dX2_read_32 : decode cX2_read 32 = .ok (.getfield 29, 3) := by decide +kernel
theorem dX2_read_35 : decode cX2_read 35 = .ok (.ifCond .eq 7, 3) := by decide +kernel
theorem dX2_read_38 : decode cX2_read 38 = .ok (.iload_n 2, 1) := by decide +kernel
theorem dX2_read_39 : decode cX2_read 39 = .ok (.goto 6, 3) := by decide +kernel
theorem dX2_read_42 : decode cX2_read 42 = .ok (.iload_n 2, 1) := by decide +kernel
theorem dX2_read_43 : decode cX2_read 43 = .ok (.iconst 1, 1) := by decide +kernel
theorem dX2_read_44 : decode cX2_read 44 = .ok (.iadd, 1) := by decide +kernel
theorem dX2_read_45 : decode cX2_read 45 = .ok (.putfield 33, 3) := by decide +kernel
theorem dX2_read_48 : decode cX2_read 48 = .ok (.iconst 0, 1) := by decide +kernel
theorem dX2_read_49 : decode cX2_read 49 = .ok (.istore 4, 2) := by decide +kernel
theorem dX2_read_51 : decode cX2_read 51 = .ok (.iload 4, 2) := by decide +kernel
theorem dX2_read_53 : decode cX2_read 53 = .ok (.iload_n 3, 1) := by decide +kernel
theorem dX2_read_54 : decode cX2_read 54 = .ok (.if_icmp .ge 42, 3) := by decide +kernel
theorem dX2_read_57 : decode cX2_read 57 = .ok (.aload_n 0, 1) := by decide +kernel
theorem dX2_read_58 : decode cX2_read 58 = .ok (.getfield 29, 3) := by decide +kernel
theorem dX2_read_61 : decode cX2_read 61 = .ok (.ifCond .ne 35, 3) := by decide +kernel
theorem dX2_read_64 : decode cX2_read 64 = .ok (.iload 4, 2) := by decide +kernel
theorem dX2_read_66 : decode cX2_read 66 = .ok (.ifCond .le 10, 3) := by decide +kernel
theorem dX2_read_69 : decode cX2_read 69 = .ok (.aload_n 0, 1) := by decide +kernel
theorem dX2_read_70 : decode cX2_read 70 = .ok (.aload_n 1, 1) := by decide +kernel
theorem dX2_read_71 : decode cX2_read 71 = .ok (.bipush 44, 2) := by decide +kernel
theorem dX2_read_73 : decode cX2_read 73 = .ok (.invokevirtual 37, 3) := by decide +kernel
theorem dX2_read_76 : decode cX2_read 76 = .ok (.aload_n 0, 1) := by decide +kernel
theorem dX2_read_77 : decode cX2_read 77 = .ok (.getfield 29, 3) := by decide +kernel
theorem dX2_read_80 : decode cX2_read 80 = .ok (.ifCond .ne 10, 3) := by decide +kernel
theorem dX2_read_83 : decode cX2_read 83 = .ok (.aload_n 0, 1) := by decide +kernel
theorem dX2_read_84 : decode cX2_read 84 = .ok (.aload_n 1, 1) := by decide +kernel
theorem dX2_read_85 : decode cX2_read 85 = .ok (.iload 4, 2) := by decide +kernel
theorem dX2_read_87 : decode cX2_read 87 = .ok (.invokevirtual 41, 3) := by decide +kernel
theorem dX2_read_90 : decode cX2_read 90 = .ok (.iinc 4 1, 3) := by decide +kernel
theorem dX2_read_93 : decode cX2_read 93 = .ok (.goto (-42), 3) := by decide +kernel
theorem dX2_read_96 : decode cX2_read 96 = .ok (.aload_n 0, 1) := by decide +kernel
theorem dX2_read_97 : decode cX2_read 97 = .ok (.getfield 29, 3) := by decide +kernel
theorem dX2_read_100 : decode cX2_read 100 = .ok (.ifCond .ne 10, 3) := by decide +kernel
theorem dX2_read_103 : decode cX2_read 103 = .ok (.aload_n 0, 1) := by decide +kernel
theorem dX2_read_104 : decode cX2_read 104 = .ok (.aload_n 1, 1) := by decide +kernel
theorem dX2_read_105 : decode cX2_read 105 = .ok (.bipush 59, 2) := by decide +kernel
theorem dX2_read_107 : decode cX2_read 107 = .ok (.invokevirtual 37, 3) := by decide +kernel
theorem dX2_read_110 : decode cX2_read 110 = .ok (.return_, 1) := by decide +kernel
theorem dX2_numbersBehind_0 : decode cX2_numbersBehind 0 = .ok (.iload_n 0, 1) := by decide +kernel
theorem dX2_numbersBehind_1 : decode cX2_numbersBehind 1 = .ok (.bipush 116, 2) := by decide +kernel
theorem dX2_numbersBehind_3 : decode cX2_numbersBehind 3 = .ok (.if_icmp .ne 6, 3) := by decide +kernel
theorem dX2_numbersBehind_6 : decode cX2_numbersBehind 6 = .ok (.bipush 6, 2) := by decide +kernel
theorem dX2_numbersBehind_8 : decode cX2_numbersBehind 8 = .ok (.ireturn, 1) := by decide +kernel
theorem dX2_numbersBehind_9 : decode cX2_numbersBehind 9 = .ok (.iload_n 0, 1) := by decide +kernel
theorem dX2_numbersBehind_10 : decode cX2_numbersBehind 10 = .ok (.bipush 115, 2) := by decide +kernel
theorem dX2_numbersBehind_12 : decode cX2_numbersBehind 12 = .ok (.if_icmp .ne 5, 3) := by decide +kernel
theorem dX2_numbersBehind_15 : decode cX2_numbersBehind 15 = .ok (.iconst 0, 1) := by decide +kernel
theorem dX2_numbersBehind_16 : decode cX2_numbersBehind 16 = .ok (.ireturn, 1) := by decide +kernel
theorem dX2_numbersBehind_17 : decode cX2_numbersBehind 17 = .ok (.iload_n 0, 1) := by decide +kernel
theorem dX2_numbersBehind_18 : decode cX2_numbersBehind 18 = .ok (.bipush 103, 2) := by decide +kernel
theorem dX2_numbersBehind_20 : decode cX2_numbersBehind 20 = .ok (.if_icmp .eq 15, 3) := by decide +kernel
theorem dX2_numbersBehind_23 : decode cX2_numbersBehind 23 = .ok (.iload_n 0, 1) := by decide +kernel
theorem dX2_numbersBehind_24 : decode cX2_numbersBehind 24 = .ok (.bipush 98, 2) := by decide +kernel
theorem dX2_numbersBehind_26 : decode cX2_numbersBehind 26 = .ok (.if_icmp .eq 9, 3) := by decide +kernel
theorem dX2_numbersBehind_29 : decode cX2_numbersBehind 29 = .ok (.iload_n 0, 1) := by decide +kernel
theorem dX2_numbersBehind_30 : decode cX2_numbersBehind 30 = .ok (.bipush 117, 2) := by decide +kernel
theorem dX2_numbersBehind_32 : decode cX2_numbersBehind 32 = .ok (.if_icmp .ne 7, 3) := by decide +kernel
theorem dX2_numbersBehind_35 : decode cX2_numbersBehind 35 = .ok (.iconst 1, 1) := by decide +kernel
theorem dX2_numbersBehind_36 : decode cX2_numbersBehind 36 = .ok (.goto 4, 3) := by decide +kernel
theorem dX2_numbersBehind_39 : decode cX2_numbersBehind 39 = .ok (.iconst (-1), 1) := by decide +kernel
theorem dX2_numbersBehind_40 : decode cX2_numbersBehind 40 = .ok (.ireturn, 1) := by decide +kernel
theorem dX2_readSign_0 : decode cX2_readSign 0 = .ok (.aload_n 1, 1) := by decide +kernel
theorem dX2_readSign_1 : decode cX2_readSign 1 = .ok (.aload_n 0, 1) := by decide +kernel
theorem dX2_readSign_2 : decode cX2_readSign 2 = .ok (.getfield 33, 3) := by decide +kernel
theorem dX2_readSign_5 : decode cX2_readSign 5 = .ok (.invokevirtual 15, 3) := by decide +kernel
theorem dX2_readSign_8 : decode cX2_readSign 8 = .ok (.iload_n 2, 1) := by decide +kernel
theorem dX2_readSign_9 : decode cX2_readSign 9 = .ok (.if_icmp .ne 16, 3) := by decide +kernel
theorem dX2_readSign_12 : decode cX2_readSign 12 = .ok (.aload_n 0, 1) := by decide +kernel
theorem dX2_readSign_13 : decode cX2_readSign 13 = .ok (.dup, 1) := by decide +kernel
theorem dX2_readSign_14 : decode cX2_readSign 14 = .ok (.getfield 33, 3) := by decide +kernel
theorem dX2_readSign_17 : decode cX2_readSign 17 = .ok (.iconst 1, 1) := by decide +kernel
theorem dX2_readSign_18 : decode cX2_readSign 18 = .ok (.iadd, 1) := by decide +kernel
theorem dX2_readSign_19 : decode cX2_readSign 19 = .ok (.putfield 33, 3) := by decide +kernel
theorem dX2_readSign_22 : decode cX2_readSign 22 = .ok (.goto 8, 3) := by decide +kernel
theorem dX2_readSign_25 : decode cX2_readSign 25 = .ok (.aload_n 0, 1) := by decide +kernel
theorem dX2_readSign_26 : decode cX2_readSign 26 = .ok (.iconst 1, 1) := by decide +kernel
theorem dX2_readSign_27 : decode cX2_readSign 27 = .ok (.putfield 29, 3) := by decide +kernel
theorem dX2_readSign_30 : decode cX2_readSign 30 = .ok (.return_, 1) := by decide +kernel
theorem dX2_readNumber_0 : decode cX2_readNumber 0 = .ok (.aload_n 1, 1) := by decide +kernel
theorem dX2_readNumber_1 : decode cX2_readNumber 1 = .ok (.aload_n 0, 1) := by decide +kernel
theorem dX2_readNumber_2 : decode cX2_readNumber 2 = .ok (.getfield 33, 3) := by decide +kernel
theorem dX2_readNumber_5 : decode cX2_readNumber 5 = .ok (.invokevirtual 15, 3) := by decide +kernel
theorem dX2_readNumber_8 : decode cX2_readNumber 8 = .ok (.bipush 45, 2) := by decide +kernel
theorem dX2_readNumber_10 : decode cX2_readNumber 10 = .ok (.if_icmp .ne 7, 3) := by decide +kernel
theorem dX2_readNumber_13 : decode cX2_readNumber 13 = .ok (.iconst 1, 1) := by decide +kernel
theorem dX2_readNumber_14 : decode cX2_readNumber 14 = .ok (.goto 4, 3) := by decide +kernel
theorem dX2_readNumber_17 : decode cX2_readNumber 17 = .ok (.iconst 0, 1) := by decide +kernel
theorem dX2_readNumber_18 : decode cX2_readNumber 18 = .ok (.istore_n 3, 1) := by decide +kernel
theorem dX2_readNumber_19 : decode cX2_readNumber 19 = .ok (.iload_n 3, 1) := by decide +kernel
theorem dX2_readNumber_20 : decode cX2_readNumber 20 = .ok (.ifCond .eq 13, 3) := by decide +kernel
theorem dX2_readNumber_23 : decode cX2_readNumber 23 = .ok (.aload_n 0, 1) := by decide +kernel
theorem dX2_readNumber_24 : decode cX2_readNumber 24 = .ok (.dup, 1) := by decide +kernel
theorem dX2_readNumber_25 : decode cX2_readNumber 25 = .ok (.getfield 33, 3) := by decide +kernel
theorem dX2_readNumber_28 : decode cX2_readNumber 28 = .ok (.iconst 1, 1) := by decide +kernel
theorem dX2_readNumber_29 : decode cX2_readNumber 29 = .ok (.iadd, 1) := by decide +kernel
theorem dX2_readNumber_30 : decode cX2_readNumber 30 = .ok (.putfield 33, 3) := by decide +kernel
theorem dX2_readNumber_33 : decode cX2_readNumber 33 = .ok (.iconst 0, 1) := by decide +kernel
theorem dX2_readNumber_34 : decode cX2_readNumber 34 = .ok (.istore 4, 2) := by decide +kernel
theorem dX2_readNumber_36 : decode cX2_readNumber 36 = .ok (.iconst 0, 1) := by decide +kernel
theorem dX2_readNumber_37 : decode cX2_readNumber 37 = .ok (.istore 5, 2) := by decide +kernel
theorem dX2_readNumber_39 : decode cX2_readNumber 39 = .ok (.iload 5, 2) := by decide +kernel
theorem dX2_readNumber_41 : decode cX2_readNumber 41 = .ok (.iconst 5, 1) := by decide +kernel
theorem dX2_readNumber_42 : decode cX2_readNumber 42 = .ok (.if_icmp .ge 52, 3) := by decide +kernel
theorem dX2_readNumber_45 : decode cX2_readNumber 45 = .ok (.aload_n 1, 1) := by decide +kernel
theorem dX2_readNumber_46 : decode cX2_readNumber 46 = .ok (.aload_n 0, 1) := by decide +kernel
theorem dX2_readNumber_47 : decode cX2_readNumber 47 = .ok (.getfield 33, 3) := by decide +kernel
theorem dX2_readNumber_50 : decode cX2_readNumber 50 = .ok (.invokevirtual 15, 3) := by decide +kernel
theorem dX2_readNumber_53 : decode cX2_readNumber 53 = .ok (.invokestatic 45, 3) := by decide +kernel
theorem dX2_readNumber_56 : decode cX2_readNumber 56 = .ok (.ifCond .eq 38, 3) := by decide +kernel
theorem dX2_readNumber_59 : decode cX2_readNumber 59 = .ok (.iload 4, 2) := by decide +kernel
theorem dX2_readNumber_61 : decode cX2_readNumber 61 = .ok (.bipush 10, 2) := by decide +kernel
theorem dX2_readNumber_63 : decode cX2_readNumber 63 = .ok (.imul, 1) := by decide +kernel
theorem dX2_readNumber_64 : decode cX2_readNumber 64 = .ok (.aload_n 1, 1) := by decide +kernel
theorem dX2_readNumber_65 : decode cX2_readNumber 65 = .ok (.aload_n 0, 1) := by decide +kernel
theorem dX2_readNumber_66 : decode cX2_readNumber 66 = .ok (.getfield 33, 3) := by decide +kernel
theorem dX2_readNumber_69 : decode cX2_readNumber 69 = .ok (.invokevirtual 15, 3) := by decide +kernel
theorem dX2_readNumber_72 : decode cX2_readNumber 72 = .ok (.bipush 48, 2) := by decide +kernel
theorem dX2_readNumber_74 : decode cX2_readNumber 74 = .ok (.isub, 1) := by decide +kernel
theorem dX2_readNumber_75 : decode cX2_readNumber 75 = .ok (.iadd, 1) := by decide +kernel
theorem dX2_readNumber_76 : decode cX2_readNumber 76 = .ok (.istore 4, 2) := by decide +kernel
theorem dX2_readNumber_78 : decode cX2_readNumber 78 = .ok (.iinc 5 1, 3) := by decide +kernel
theorem dX2_readNumber_81 : decode cX2_readNumber 81 = .ok (.aload_n 0, 1) := by decide +kernel
theorem dX2_readNumber_82 : decode cX2_readNumber 82 = .ok (.dup, 1) := by decide +kernel
theorem dX2_readNumber_83 : decode cX2_readNumber 83 = .ok (.getfield 33, 3) := by decide +kernel
theorem dX2_readNumber_86 : decode cX2_readNumber 86 = .ok (.iconst 1, 1) := by decide +kernel
theorem dX2_readNumber_87 : decode cX2_readNumber 87 = .ok (.iadd, 1) := by decide +kernel
theorem dX2_readNumber_88 : decode cX2_readNumber 88 = .ok (.putfield 33, 3) := by decide +kernel
theorem dX2_readNumber_91 : decode cX2_readNumber 91 = .ok (.goto (-52), 3) := by decide +kernel
theorem dX2_readNumber_94 : decode cX2_readNumber 94 = .ok (.aload_n 0, 1) := by decide +kernel
theorem dX2_readNumber_95 : decode cX2_readNumber 95 = .ok (.iload 5, 2) := by decide +kernel
theorem dX2_readNumber_97 : decode cX2_readNumber 97 = .ok (.ifCond .ne 7, 3) := by decide +kernel
theorem dX2_readNumber_100 : decode cX2_readNumber 100 = .ok (.iconst 1, 1) := by decide +kernel
theorem dX2_readNumber_101 : decode cX2_readNumber 101 = .ok (.goto 4, 3) := by decide +kernel
theorem dX2_readNumber_104 : decode cX2_readNumber 104 = .ok (.iconst 0, 1) := by decide +kernel
theorem dX2_readNumber_105 : decode cX2_readNumber 105 = .ok (.putfield 29, 3) := by decide +kernel
theorem dX2_readNumber_108 : decode cX2_readNumber 108 = .ok (.iload_n 2, 1) := by decide +kernel
theorem dX2_readNumber_109 : decode cX2_readNumber 109 = .ok (.ifCond .lt 30, 3) := by decide +kernel
theorem dX2_readNumber_112 : decode cX2_readNumber 112 = .ok (.iload_n 2, 1) := by decide +kernel
theorem dX2_readNumber_113 : decode cX2_readNumber 113 = .ok (.aload_n 0, 1) := by decide +kernel
theorem dX2_readNumber_114 : decode cX2_readNumber 114 = .ok (.getfield 9, 3) := by decide +kernel
theorem dX2_readNumber_117 : decode cX2_readNumber 117 = .ok (.arraylength, 1) := by decide +kernel
theorem dX2_readNumber_118 : decode cX2_readNumber 118 = .ok (.if_icmp .ge 21, 3) := by decide +kernel
theorem dX2_readNumber_121 : decode cX2_readNumber 121 = .ok (.aload_n 0, 1) := by decide +kernel
theorem dX2_readNumber_122 : decode cX2_readNumber 122 = .ok (.getfield 9, 3) := by decide +kernel
theorem dX2_readNumber_125 : decode cX2_readNumber 125 = .ok (.iload_n 2, 1) := by decide +kernel
theorem dX2_readNumber_126 : decode cX2_readNumber 126 = .ok (.iload_n 3, 1) := by decide +kernel
theorem dX2_readNumber_127 : decode cX2_readNumber 127 = .ok (.ifCond .eq 9, 3) := by decide +kernel
theorem dX2_readNumber_130 : decode cX2_readNumber 130 = .ok (.iload 4, 2) := by decide +kernel
theorem dX2_readNumber_132 : decode cX2_readNumber 132 = .ok (.ineg, 1) := by decide +kernel
theorem dX2_readNumber_133 : decode cX2_readNumber 133 = .ok (.goto 5, 3) := by decide +kernel
theorem dX2_readNumber_136 : decode cX2_readNumber 136 = .ok (.iload 4, 2) := by decide +kernel
theorem dX2_readNumber_138 : decode cX2_readNumber 138 = .ok (.iastore, 1) := by decide +kernel
theorem dX2_readNumber_139 : decode cX2_readNumber 139 = .ok (.return_, 1) := by decide +kernel
theorem dX2_isDigit_0 : decode cX2_isDigit 0 = .ok (.iload_n 0, 1) := by decide +kernel
theorem dX2_isDigit_1 : decode cX2_isDigit 1 = .ok (.bipush 48, 2) := by decide +kernel
theorem dX2_isDigit_3 : decode cX2_isDigit 3 = .ok (.if_icmp .lt 13, 3) := by decide +kernel
theorem dX2_isDigit_6 : decode cX2_isDigit 6 = .ok (.iload_n 0, 1) := by decide +kernel
theorem dX2_isDigit_7 : decode cX2_isDigit 7 = .ok (.bipush 57, 2) := by decide +kernel
theorem dX2_isDigit_9 : decode cX2_isDigit 9 = .ok (.if_icmp .gt 7, 3) := by decide +kernel
theorem dX2_isDigit_12 : decode cX2_isDigit 12 = .ok (.iconst 1, 1) := by decide +kernel
theorem dX2_isDigit_13 : decode cX2_isDigit 13 = .ok (.goto 4, 3) := by decide +kernel
theorem dX2_isDigit_16 : decode cX2_isDigit 16 = .ok (.iconst 0, 1) := by decide +kernel
theorem dX2_isDigit_17 : decode cX2_isDigit 17 = .ok (.ireturn, 1) := by decide +kernel
theorem dX2_numberAt_0 : decode cX2_numberAt 0 = .ok (.aload_n 0, 1) := by decide +kernel
theorem dX2_numberAt_1 : decode cX2_numberAt 1 = .ok (.getfield 9, 3) := by decide +kernel
theorem dX2_numberAt_4 : decode cX2_numberAt 4 = .ok (.iload_n 1, 1) := by decide +kernel
theorem dX2_numberAt_5 : decode cX2_numberAt 5 = .ok (.invokestatic 49, 3) := by decide +kernel
theorem dX2_numberAt_8 : decode cX2_numberAt 8 = .ok (.ireturn, 1) := by decide +kernel
theorem dX2_wrongNumber_0 : decode cX2_wrongNumber 0 = .ok (.aload_n 0, 1) := by decide +kernel
theorem dX2_wrongNumber_1 : decode cX2_wrongNumber 1 = .ok (.getfield 21, 3) := by decide +kernel
theorem dX2_wrongNumber_4 : decode cX2_wrongNumber 4 = .ok (.bipush 116, 2) := by decide +kernel
theorem dX2_wrongNumber_6 : decode cX2_wrongNumber 6 = .ok (.if_icmp .ne 37, 3) := by decide +kernel
theorem dX2_wrongNumber_9 : decode cX2_wrongNumber 9 = .ok (.aload_n 0, 1) := by decide +kernel
theorem dX2_wrongNumber_10 : decode cX2_wrongNumber 10 = .ok (.iconst 0, 1) := by decide +kernel
theorem dX2_wrongNumber_11 : decode cX2_wrongNumber 11 = .ok (.invokevirtual 53, 3) := by decide +kernel
theorem dX2_wrongNumber_14 : decode cX2_wrongNumber 14 = .ok (.aload_n 0, 1) := by decide +kernel
theorem dX2_wrongNumber_15 : decode cX2_wrongNumber 15 = .ok (.iconst 1, 1) := by decide +kernel
theorem dX2_wrongNumber_16 : decode cX2_wrongNumber 16 = .ok (.invokevirtual 53, 3) := by decide +kernel
theorem dX2_wrongNumber_19 : decode cX2_wrongNumber 19 = .ok (.aload_n 0, 1) := by decide +kernel
theorem dX2_wrongNumber_20 : decode cX2_wrongNumber 20 = .ok (.iconst 2, 1) := by decide +kernel
theorem dX2_wrongNumber_21 : decode cX2_wrongNumber 21 = .ok (.invokevirtual 53, 3) := by decide +kernel
theorem dX2_wrongNumber_24 : decode cX2_wrongNumber 24 = .ok (.aload_n 0, 1) := by decide +kernel
theorem dX2_wrongNumber_25 : decode cX2_wrongNumber 25 = .ok (.iconst 3, 1) := by decide +kernel
theorem dX2_wrongNumber_26 : decode cX2_wrongNumber 26 = .ok (.invokevirtual 53, 3) := by decide +kernel
theorem dX2_wrongNumber_29 : decode cX2_wrongNumber 29 = .ok (.aload_n 0, 1) := by decide +kernel
theorem dX2_wrongNumber_30 : decode cX2_wrongNumber 30 = .ok (.iconst 4, 1) := by decide +kernel
theorem dX2_wrongNumber_31 : decode cX2_wrongNumber 31 = .ok (.invokevirtual 53, 3) := by decide +kernel
theorem dX2_wrongNumber_34 : decode cX2_wrongNumber 34 = .ok (.aload_n 0, 1) := by decide +kernel
theorem dX2_wrongNumber_35 : decode cX2_wrongNumber 35 = .ok (.iconst 5, 1) := by decide +kernel
theorem dX2_wrongNumber_36 : decode cX2_wrongNumber 36 = .ok (.invokevirtual 53, 3) := by decide +kernel
theorem dX2_wrongNumber_39 : decode cX2_wrongNumber 39 = .ok (.invokestatic 57, 3) := by decide +kernel
theorem dX2_wrongNumber_42 : decode cX2_wrongNumber 42 = .ok (.ireturn, 1) := by decide +kernel
theorem dX2_wrongNumber_43 : decode cX2_wrongNumber 43 = .ok (.aload_n 0, 1) := by decide +kernel
theorem dX2_wrongNumber_44 : decode cX2_wrongNumber 44 = .ok (.getfield 21, 3) := by decide +kernel
theorem dX2_wrongNumber_47 : decode cX2_wrongNumber 47 = .ok (.bipush 103, 2) := by decide +kernel
theorem dX2_wrongNumber_49 : decode cX2_wrongNumber 49 = .ok (.if_icmp .ne 24, 3) := by decide +kernel
theorem dX2_wrongNumber_52 : decode cX2_wrongNumber 52 = .ok (.aload_n 0, 1) := by decide +kernel
theorem dX2_wrongNumber_53 : decode cX2_wrongNumber 53 = .ok (.iconst 0, 1) := by decide +kernel
theorem dX2_wrongNumber_54 : decode cX2_wrongNumber 54 = .ok (.invokevirtual 53, 3) := by decide +kernel
theorem dX2_wrongNumber_57 : decode cX2_wrongNumber 57 = .ok (.iconst 1, 1) := by decide +kernel
theorem dX2_wrongNumber_58 : decode cX2_wrongNumber 58 = .ok (.sipush 200, 3) := by decide +kernel
theorem dX2_wrongNumber_61 : decode cX2_wrongNumber 61 = .ok (.invokestatic 61, 3) := by decide +kernel
theorem dX2_wrongNumber_64 : decode cX2_wrongNumber 64 = .ok (.ifCond .eq 7, 3) := by decide +kernel
theorem dX2_wrongNumber_67 : decode cX2_wrongNumber 67 = .ok (.iconst (-1), 1) := by decide +kernel
theorem dX2_wrongNumber_68 : decode cX2_wrongNumber 68 = .ok (.goto 4, 3) := by decide +kernel
theorem dX2_wrongNumber_71 : decode cX2_wrongNumber 71 = .ok (.iconst 0, 1) := by decide +kernel
theorem dX2_wrongNumber_72 : decode cX2_wrongNumber 72 = .ok (.ireturn, 1) := by decide +kernel
theorem dX2_wrongNumber_73 : decode cX2_wrongNumber 73 = .ok (.aload_n 0, 1) := by decide +kernel
theorem dX2_wrongNumber_74 : decode cX2_wrongNumber 74 = .ok (.getfield 21, 3) := by decide +kernel
theorem dX2_wrongNumber_77 : decode cX2_wrongNumber 77 = .ok (.bipush 115, 2) := by decide +kernel
theorem dX2_wrongNumber_79 : decode cX2_wrongNumber 79 = .ok (.if_icmp .eq 17, 3) := by decide +kernel
theorem dX2_wrongNumber_82 : decode cX2_wrongNumber 82 = .ok (.aload_n 0, 1) := by decide +kernel
theorem dX2_wrongNumber_83 : decode cX2_wrongNumber 83 = .ok (.iconst 0, 1) := by decide +kernel
theorem dX2_wrongNumber_84 : decode cX2_wrongNumber 84 = .ok (.invokevirtual 53, 3) := by decide +kernel
theorem dX2_wrongNumber_87 : decode cX2_wrongNumber 87 = .ok (.iconst 0, 1) := by decide +kernel
theorem dX2_wrongNumber_88 : decode cX2_wrongNumber 88 = .ok (.bipush 9, 2) := by decide +kernel
theorem dX2_wrongNumber_90 : decode cX2_wrongNumber 90 = .ok (.invokestatic 61, 3) := by decide +kernel
theorem dX2_wrongNumber_93 : decode cX2_wrongNumber 93 = .ok (.ifCond .eq 7, 3) := by decide +kernel
theorem dX2_wrongNumber_96 : decode cX2_wrongNumber 96 = .ok (.iconst (-1), 1) := by decide +kernel
theorem dX2_wrongNumber_97 : decode cX2_wrongNumber 97 = .ok (.goto 4, 3) := by decide +kernel
theorem dX2_wrongNumber_100 : decode cX2_wrongNumber 100 = .ok (.iconst 0, 1) := by decide +kernel
theorem dX2_wrongNumber_101 : decode cX2_wrongNumber 101 = .ok (.ireturn, 1) := by decide +kernel
theorem dX2_perform_0 : decode cX2_perform 0 = .ok (.aload_n 0, 1) := by decide +kernel
theorem dX2_perform_1 : decode cX2_perform 1 = .ok (.getfield 21, 3) := by decide +kernel
theorem dX2_perform_4 : decode cX2_perform 4 = .ok (.bipush 116, 2) := by decide +kernel
theorem dX2_perform_6 : decode cX2_perform 6 = .ok (.if_icmp .ne 40, 3) := by decide +kernel
theorem dX2_perform_9 : decode cX2_perform 9 = .ok (.aload_n 1, 1) := by decide +kernel
theorem dX2_perform_10 : decode cX2_perform 10 = .ok (.aload_n 0, 1) := by decide +kernel
theorem dX2_perform_11 : decode cX2_perform 11 = .ok (.iconst 0, 1) := by decide +kernel
theorem dX2_perform_12 : decode cX2_perform 12 = .ok (.invokevirtual 53, 3) := by decide +kernel
theorem dX2_perform_15 : decode cX2_perform 15 = .ok (.aload_n 0, 1) := by decide +kernel
theorem dX2_perform_16 : decode cX2_perform 16 = .ok (.iconst 1, 1) := by decide +kernel
theorem dX2_perform_17 : decode cX2_perform 17 = .ok (.invokevirtual 53, 3) := by decide +kernel
theorem dX2_perform_20 : decode cX2_perform 20 = .ok (.aload_n 0, 1) := by decide +kernel
theorem dX2_perform_21 : decode cX2_perform 21 = .ok (.iconst 2, 1) := by decide +kernel
theorem dX2_perform_22 : decode cX2_perform 22 = .ok (.invokevirtual 53, 3) := by decide +kernel
theorem dX2_perform_25 : decode cX2_perform 25 = .ok (.aload_n 0, 1) := by decide +kernel
theorem dX2_perform_26 : decode cX2_perform 26 = .ok (.iconst 3, 1) := by decide +kernel
theorem dX2_perform_27 : decode cX2_perform 27 = .ok (.invokevirtual 53, 3) := by decide +kernel
theorem dX2_perform_30 : decode cX2_perform 30 = .ok (.aload_n 0, 1) := by decide +kernel
theorem dX2_perform_31 : decode cX2_perform 31 = .ok (.iconst 4, 1) := by decide +kernel
theorem dX2_perform_32 : decode cX2_perform 32 = .ok (.invokevirtual 53, 3) := by decide +kernel
theorem dX2_perform_35 : decode cX2_perform 35 = .ok (.aload_n 0, 1) := by decide +kernel
theorem dX2_perform_36 : decode cX2_perform 36 = .ok (.iconst 5, 1) := by decide +kernel
theorem dX2_perform_37 : decode cX2_perform 37 = .ok (.invokevirtual 53, 3) := by decide +kernel
theorem dX2_perform_40 : decode cX2_perform 40 = .ok (.invokevirtual 65, 3) := by decide +kernel
theorem dX2_perform_43 : decode cX2_perform 43 = .ok (.goto 101, 3) := by decide +kernel
theorem dX2_perform_46 : decode cX2_perform 46 = .ok (.aload_n 0, 1) := by decide +kernel
theorem dX2_perform_47 : decode cX2_perform 47 = .ok (.getfield 21, 3) := by decide +kernel
theorem dX2_perform_50 : decode cX2_perform 50 = .ok (.bipush 103, 2) := by decide +kernel
theorem dX2_perform_52 : decode cX2_perform 52 = .ok (.if_icmp .ne 20, 3) := by decide +kernel
theorem dX2_perform_55 : decode cX2_perform 55 = .ok (.aload_n 1, 1) := by decide +kernel
theorem dX2_perform_56 : decode cX2_perform 56 = .ok (.dup, 1) := by decide +kernel
theorem dX2_perform_57 : decode cX2_perform 57 = .ok (.getfield 71, 3) := by decide +kernel
theorem dX2_perform_60 : decode cX2_perform 60 = .ok (.aload_n 0, 1) := by decide +kernel
theorem dX2_perform_61 : decode cX2_perform 61 = .ok (.iconst 0, 1) := by decide +kernel
theorem dX2_perform_62 : decode cX2_perform 62 = .ok (.invokevirtual 53, 3) := by decide +kernel
theorem dX2_perform_65 : decode cX2_perform 65 = .ok (.iadd, 1) := by decide +kernel
theorem dX2_perform_66 : decode cX2_perform 66 = .ok (.putfield 71, 3) := by decide +kernel
theorem dX2_perform_69 : decode cX2_perform 69 = .ok (.goto 75, 3) := by decide +kernel
theorem dX2_perform_72 : decode cX2_perform 72 = .ok (.aload_n 0, 1) := by decide +kernel
theorem dX2_perform_73 : decode cX2_perform 73 = .ok (.getfield 21, 3) := by decide +kernel
theorem dX2_perform_76 : decode cX2_perform 76 = .ok (.bipush 115, 2) := by decide +kernel
theorem dX2_perform_78 : decode cX2_perform 78 = .ok (.if_icmp .ne 11, 3) := by decide +kernel
theorem dX2_perform_81 : decode cX2_perform 81 = .ok (.aload_n 1, 1) := by decide +kernel
theorem dX2_perform_82 : decode cX2_perform 82 = .ok (.aload_n 2, 1) := by decide +kernel
theorem dX2_perform_83 : decode cX2_perform 83 = .ok (.invokevirtual 74, 3) := by decide +kernel
theorem dX2_perform_86 : decode cX2_perform 86 = .ok (.goto 58, 3) := by decide +kernel
theorem dX2_perform_89 : decode cX2_perform 89 = .ok (.aload_n 0, 1) := by decide +kernel
theorem dX2_perform_90 : decode cX2_perform 90 = .ok (.getfield 21, 3) := by decide +kernel
theorem dX2_perform_93 : decode cX2_perform 93 = .ok (.bipush 98, 2) := by decide +kernel
theorem dX2_perform_95 : decode cX2_perform 95 = .ok (.if_icmp .ne 22, 3) := by decide +kernel
theorem dX2_perform_98 : decode cX2_perform 98 = .ok (.aload_n 1, 1) := by decide +kernel
theorem dX2_perform_99 : decode cX2_perform 99 = .ok (.dup, 1) := by decide +kernel
theorem dX2_perform_100 : decode cX2_perform 100 = .ok (.getfield 78, 3) := by decide +kernel
theorem dX2_perform_103 : decode cX2_perform 103 = .ok (.iconst 1, 1) := by decide +kernel
theorem dX2_perform_104 : decode cX2_perform 104 = .ok (.aload_n 0, 1) := by decide +kernel
theorem dX2_perform_105 : decode cX2_perform 105 = .ok (.iconst 0, 1) := by decide +kernel
theorem dX2_perform_106 : decode cX2_perform 106 = .ok (.invokevirtual 53, 3) := by decide +kernel
theorem dX2_perform_109 : decode cX2_perform 109 = .ok (.ishl, 1) := by decide +kernel
theorem dX2_perform_110 : decode cX2_perform 110 = .ok (.ior, 1) := by decide +kernel
theorem dX2_perform_111 : decode cX2_perform 111 = .ok (.putfield 78, 3) := by decide +kernel
theorem dX2_perform_114 : decode cX2_perform 114 = .ok (.goto 30, 3) := by decide +kernel
theorem dX2_perform_117 : decode cX2_perform 117 = .ok (.aload_n 0, 1) := by decide +kernel
theorem dX2_perform_118 : decode cX2_perform 118 = .ok (.getfield 21, 3) := by decide +kernel
theorem dX2_perform_121 : decode cX2_perform 121 = .ok (.bipush 117, 2) := by decide +kernel
theorem dX2_perform_123 : decode cX2_perform 123 = .ok (.if_icmp .ne 21, 3) := by decide +kernel
theorem dX2_perform_126 : decode cX2_perform 126 = .ok (.aload_n 1, 1) := by decide +kernel
theorem dX2_perform_127 : decode cX2_perform 127 = .ok (.dup, 1) := by decide +kernel
theorem dX2_perform_128 : decode cX2_perform 128 = .ok (.getfield 78, 3) := by decide +kernel
theorem dX2_perform_131 : decode cX2_perform 131 = .ok (.iconst 1, 1) := by decide +kernel
theorem dX2_perform_132 : decode cX2_perform 132 = .ok (.aload_n 0, 1) := by decide +kernel
theorem dX2_perform_133 : decode cX2_perform 133 = .ok (.iconst 0, 1) := by decide +kernel
theorem dX2_perform_134 : decode cX2_perform 134 = .ok (.invokevirtual 53, 3) := by decide +kernel
theorem dX2_perform_137 : decode cX2_perform 137 = .ok (.ishl, 1) := by decide +kernel
theorem dX2_perform_138 : decode cX2_perform 138 = .ok (.iconst (-1), 1) := by decide +kernel
theorem dX2_perform_139 : decode cX2_perform 139 = .ok (.ixor, 1) := by decide +kernel
theorem dX2_perform_140 : decode cX2_perform 140 = .ok (.iand, 1) := by decide +kernel
theorem dX2_perform_141 : decode cX2_perform 141 = .ok (.putfield 78, 3) := by decide +kernel
theorem dX2_perform_144 : decode cX2_perform 144 = .ok (.return_, 1) := by decide +kernel
theorem dX3_init_0 : decode cX3_init 0 = .ok (.aload_n 0, 1) := by decide +kernel
theorem dX3_init_1 : decode cX3_init 1 = .ok (.invokespecial 3, 3) := by decide +kernel
theorem dX3_init_4 : decode cX3_init 4 = .ok (.aload_n 0, 1) := by decide +kernel
theorem dX3_init_5 : decode cX3_init 5 = .ok (.bipush 8, 2) := by decide +kernel
theorem dX3_init_7 : decode cX3_init 7 = .ok (.newarray .int, 2) := by decide +kernel
theorem dX3_init_9 : decode cX3_init 9 = .ok (.putfield 9, 3) := by decide +kernel
theorem dX3_init_12 : decode cX3_init 12 = .ok (.aload_n 0, 1) := by decide +kernel
theorem dX3_init_13 : decode cX3_init 13 = .ok (.iconst 4, 1) := by decide +kernel
theorem dX3_init_14 : decode cX3_init 14 = .ok (.anewarray 15, 3) := by decide +kernel
theorem dX3_init_17 : decode cX3_init 17 = .ok (.putfield 17, 3) := by decide +kernel
theorem dX3_init_20 : decode cX3_init 20 = .ok (.aload_n 0, 1) := by decide +kernel
theorem dX3_init_21 : decode cX3_init 21 = .ok (.iconst 5, 1) := by decide +kernel
theorem dX3_init_22 : decode cX3_init 22 = .ok (.anewarray 21, 3) := by decide +kernel
theorem dX3_init_25 : decode cX3_init 25 = .ok (.putfield 23, 3) := by decide +kernel
theorem dX3_init_28 : decode cX3_init 28 = .ok (.aload_n 0, 1) := by decide +kernel
theorem dX3_init_29 : decode cX3_init 29 = .ok (.bipush 10, 2) := by decide +kernel
theorem dX3_init_31 : decode cX3_init 31 = .ok (.newarray .int, 2) := by decide +kernel
theorem dX3_init_33 : decode cX3_init 33 = .ok (.putfield 27, 3) := by decide +kernel
theorem dX3_init_36 : decode cX3_init 36 = .ok (.aload_n 0, 1) := by decide +kernel
theorem dX3_init_37 : decode cX3_init 37 = .ok (.bipush 10, 2) := by decide +kernel
theorem dX3_init_39 : decode cX3_init 39 = .ok (.newarray .int, 2) := by decide +kernel
theorem dX3_init_41 : decode cX3_init 41 = .ok (.putfield 30, 3) := by decide +kernel
theorem dX3_init_44 : decode cX3_init 44 = .ok (.iconst 0, 1) := by decide +kernel
theorem dX3_init_45 : decode cX3_init 45 = .ok (.istore_n 1, 1) := by decide +kernel
theorem dX3_init_46 : decode cX3_init 46 = .ok (.iload_n 1, 1) := by decide +kernel
theorem dX3_init_47 : decode cX3_init 47 = .ok (.aload_n 0, 1) := by decide +kernel
theorem dX3_init_48 : decode cX3_init 48 = .ok (.getfield 9, 3) := by decide +kernel
theorem dX3_init_51 : decode cX3_init 51 = .ok (.arraylength, 1) := by decide +kernel
theorem dX3_init_52 : decode cX3_init 52 = .ok (.if_icmp .ge 22, 3) := by decide +kernel
theorem dX3_init_55 : decode cX3_init 55 = .ok (.aload_n 0, 1) := by decide +kernel
theorem dX3_init_56 : decode cX3_init 56 = .ok (.getfield 9, 3) := by decide +kernel
theorem dX3_init_59 : decode cX3_init 59 = .ok (.iload_n 1, 1) := by decide +kernel
theorem dX3_init_60 : decode cX3_init 60 = .ok (.getstatic 33, 3) := by decide +kernel
theorem dX3_init_63 : decode cX3_init 63 = .ok (.iload_n 1, 1) := by decide +kernel
theorem dX3_init_64 : decode cX3_init 64 = .ok (.invokestatic 36, 3) := by decide +kernel
theorem dX3_init_67 : decode cX3_init 67 = .ok (.iastore, 1) := by decide +kernel
theorem dX3_init_68 : decode cX3_init 68 = .ok (.iinc 1 1, 3) := by decide +kernel
theorem dX3_init_71 : decode cX3_init 71 = .ok (.goto (-25), 3) := by decide +kernel
theorem dX3_init_74 : decode cX3_init 74 = .ok (.iconst 0, 1) := by decide +kernel
theorem dX3_init_75 : decode cX3_init 75 = .ok (.istore_n 1, 1) := by decide +kernel
theorem dX3_init_76 : decode cX3_init 76 = .ok (.iload_n 1, 1) := by decide +kernel
theorem dX3_init_77 : decode cX3_init 77 = .ok (.aload_n 0, 1) := by decide +kernel
theorem dX3_init_78 : decode cX3_init 78 = .ok (.getfield 17, 3) := by decide +kernel
theorem dX3_init_81 : decode cX3_init 81 = .ok (.arraylength, 1) := by decide +kernel
theorem dX3_init_82 : decode cX3_init 82 = .ok (.if_icmp .ge 22, 3) := by decide +kernel
theorem dX3_init_85 : decode cX3_init 85 = .ok (.aload_n 0, 1) := by decide +kernel
theorem dX3_init_86 : decode cX3_init 86 = .ok (.getfield 17, 3) := by decide +kernel
theorem dX3_init_89 : decode cX3_init 89 = .ok (.iload_n 1, 1) := by decide +kernel
theorem dX3_init_90 : decode cX3_init 90 = .ok (.new 15, 3) := by decide +kernel
theorem dX3_init_93 : decode cX3_init 93 = .ok (.dup, 1) := by decide +kernel
theorem dX3_init_94 : decode cX3_init 94 = .ok (.invokespecial 40, 3) := by decide +kernel
theorem dX3_init_97 : decode cX3_init 97 = .ok (.aastore, 1) := by decide +kernel
theorem dX3_init_98 : decode cX3_init 98 = .ok (.iinc 1 1, 3) := by decide +kernel
theorem dX3_init_101 : decode cX3_init 101 = .ok (.goto (-25), 3) := by decide +kernel
theorem dX3_init_104 : decode cX3_init 104 = .ok (.iconst 0, 1) := by decide +kernel
theorem dX3_init_105 : decode cX3_init 105 = .ok (.istore_n 1, 1) := by decide +kernel
theorem dX3_init_106 : decode cX3_init 106 = .ok (.iload_n 1, 1) := by decide +kernel
theorem dX3_init_107 : decode cX3_init 107 = .ok (.aload_n 0, 1) := by decide +kernel
theorem dX3_init_108 : decode cX3_init 108 = .ok (.getfield 23, 3) := by decide +kernel
theorem dX3_init_111 : decode cX3_init 111 = .ok (.arraylength, 1) := by decide +kernel
theorem dX3_init_112 : decode cX3_init 112 = .ok (.if_icmp .ge 22, 3) := by decide +kernel
theorem dX3_init_115 : decode cX3_init 115 = .ok (.aload_n 0, 1) := by decide +kernel
theorem dX3_init_116 : decode cX3_init 116 = .ok (.getfield 23, 3) := by decide +kernel
theorem dX3_init_119 : decode cX3_init 119 = .ok (.iload_n 1, 1) := by decide +kernel
theorem dX3_init_120 : decode cX3_init 120 = .ok (.new 21, 3) := by decide +kernel
theorem dX3_init_123 : decode cX3_init 123 = .ok (.dup, 1) := by decide +kernel
theorem dX3_init_124 : decode cX3_init 124 = .ok (.invokespecial 41, 3) := by decide +kernel
theorem dX3_init_127 : decode cX3_init 127 = .ok (.aastore, 1) := by decide +kernel
theorem dX3_init_128 : decode cX3_init 128 = .ok (.iinc 1 1, 3) := by decide +kernel
theorem dX3_init_131 : decode cX3_init 131 = .ok (.goto (-25), 3) := by decide +kernel
theorem dX3_init_134 : decode cX3_init 134 = .ok (.return_, 1) := by decide +kernel
theorem dX3_become_0 : decode cX3_become 0 = .ok (.aload_n 1, 1) := by decide +kernel
theorem dX3_become_1 : decode cX3_become 1 = .ok (.ifnonnull 4, 3) := by decide +kernel
theorem dX3_become_4 : decode cX3_become 4 = .ok (.return_, 1) := by decide +kernel
theorem dX3_become_5 : decode cX3_become 5 = .ok (.iconst 0, 1) := by decide +kernel
theorem dX3_become_6 : decode cX3_become 6 = .ok (.istore_n 2, 1) := by decide +kernel
theorem dX3_become_7 : decode cX3_become 7 = .ok (.iload_n 2, 1) := by decide +kernel
theorem dX3_become_8 : decode cX3_become 8 = .ok (.aload_n 0, 1) := by decide +kernel
theorem dX3_become_9 : decode cX3_become 9 = .ok (.getfield 9, 3) := by decide +kernel
theorem dX3_become_12 : decode cX3_become 12 = .ok (.arraylength, 1) := by decide +kernel
theorem dX3_become_13 : decode cX3_become 13 = .ok (.if_icmp .ge 23, 3) := by decide +kernel
theorem dX3_become_16 : decode cX3_become 16 = .ok (.aload_n 0, 1) := by decide +kernel
theorem dX3_become_17 : decode cX3_become 17 = .ok (.getfield 9, 3) := by decide +kernel
theorem dX3_become_20 : decode cX3_become 20 = .ok (.iload_n 2, 1) := by decide +kernel
theorem dX3_become_21 : decode cX3_become 21 = .ok (.aload_n 1, 1) := by decide +kernel
theorem dX3_become_22 : decode cX3_become 22 = .ok (.getfield 9, 3) := by decide +kernel
theorem dX3_become_25 : decode cX3_become 25 = .ok (.iload_n 2, 1) := by decide +kernel
theorem dX3_become_26 : decode cX3_become 26 = .ok (.invokestatic 36, 3) := by decide +kernel
theorem dX3_become_29 : decode cX3_become 29 = .ok (.iastore, 1) := by decide +kernel
theorem dX3_become_30 : decode cX3_become 30 = .ok (.iinc 2 1, 3) := by decide +kernel
theorem dX3_become_33 : decode cX3_become 33 = .ok (.goto (-26), 3) := by decide +kernel
theorem dX3_become_36 : decode cX3_become 36 = .ok (.aload_n 0, 1) := by decide +kernel
theorem dX3_become_37 : decode cX3_become 37 = .ok (.aload_n 1, 1) := by decide +kernel
theorem dX3_become_38 : decode cX3_become 38 = .ok (.invokevirtual 42, 3) := by decide +kernel
theorem dX3_become_41 : decode cX3_become 41 = .ok (.aload_n 0, 1) := by decide +kernel
theorem dX3_become_42 : decode cX3_become 42 = .ok (.aload_n 1, 1) := by decide +kernel
theorem dX3_become_43 : decode cX3_become 43 = .ok (.invokevirtual 46, 3) := by decide +kernel
theorem dX3_become_46 : decode cX3_become 46 = .ok (.aload_n 0, 1) := by decide +kernel
theorem dX3_become_47 : decode cX3_become 47 = .ok (.aload_n 1, 1) := by decide +kernel
theorem dX3_become_48 : decode cX3_become 48 = .ok (.getfield 49, 3) := by decide +kernel
theorem dX3_become_51 : decode cX3_become 51 = .ok (.putfield 49, 3) := by decide +kernel
theorem dX3_become_54 : decode cX3_become 54 = .ok (.aload_n 0, 1) := by decide +kernel
theorem dX3_become_55 : decode cX3_become 55 = .ok (.aload_n 1, 1) := by decide +kernel
theorem dX3_become_56 : decode cX3_become 56 = .ok (.getfield 53, 3) := by decide +kernel
theorem dX3_become_59 : decode cX3_become 59 = .ok (.putfield 53, 3) := by decide +kernel
theorem dX3_become_62 : decode cX3_become 62 = .ok (.iconst 0, 1) := by decide +kernel
theorem dX3_become_63 : decode cX3_become 63 = .ok (.istore_n 2, 1) := by decide +kernel
theorem dX3_become_64 : decode cX3_become 64 = .ok (.iload_n 2, 1) := by decide +kernel
theorem dX3_become_65 : decode cX3_become 65 = .ok (.aload_n 0, 1) := by decide +kernel
theorem dX3_become_66 : decode cX3_become 66 = .ok (.getfield 27, 3) := by decide +kernel
theorem dX3_become_69 : decode cX3_become 69 = .ok (.arraylength, 1) := by decide +kernel
theorem dX3_become_70 : decode cX3_become 70 = .ok (.if_icmp .ge 46, 3) := by decide +kernel
theorem dX3_become_73 : decode cX3_become 73 = .ok (.iload_n 2, 1) := by decide +kernel
theorem dX3_become_74 : decode cX3_become 74 = .ok (.aload_n 0, 1) := by decide +kernel
theorem dX3_become_75 : decode cX3_become 75 = .ok (.getfield 30, 3) := by decide +kernel
theorem dX3_become_78 : decode cX3_become 78 = .ok (.arraylength, 1) := by decide +kernel
theorem dX3_become_79 : decode cX3_become 79 = .ok (.if_icmp .ge 37, 3) := by decide +kernel
theorem dX3_become_82 : decode cX3_become 82 = .ok (.aload_n 0, 1) := by decide +kernel
theorem dX3_become_83 : decode cX3_become 83 = .ok (.getfield 27, 3) := by decide +kernel
theorem dX3_become_86 : decode cX3_become 86 = .ok (.iload_n 2, 1) := by decide +kernel
theorem dX3_become_87 : decode cX3_become 87 = .ok (.aload_n 1, 1) := by decide +kernel
theorem dX3_become_88 : decode cX3_become 88 = .ok (.getfield 27, 3) := by decide +kernel
theorem dX3_become_91 : decode cX3_become 91 = .ok (.iload_n 2, 1) := by decide +kernel
theorem dX3_become_92 : decode cX3_become 92 = .ok (.invokestatic 36, 3) := by decide +kernel
theorem dX3_become_95 : decode cX3_become 95 = .ok (.iastore, 1) := by decide +kernel
theorem dX3_become_96 : decode cX3_become 96 = .ok (.aload_n 0, 1) := by decide +kernel
theorem dX3_become_97 : decode cX3_become 97 = .ok (.getfield 30, 3) := by decide +kernel
theorem dX3_become_100 : decode cX3_become 100 = .ok (.iload_n 2, 1) := by decide +kernel
theorem dX3_become_101 : decode cX3_become 101 = .ok (.aload_n 1, 1) := by decide +kernel
theorem dX3_become_102 : decode cX3_become 102 = .ok (.getfield 30, 3) := by decide +kernel
theorem dX3_become_105 : decode cX3_become 105 = .ok (.iload_n 2, 1) := by decide +kernel
theorem dX3_become_106 : decode cX3_become 106 = .ok (.invokestatic 36, 3) := by decide +kernel
theorem dX3_become_109 : decode cX3_become 109 = .ok (.iastore, 1) := by decide +kernel
theorem dX3_become_110 : decode cX3_become 110 = .ok (.iinc 2 1, 3) := by decide +kernel
theorem dX3_become_113 : decode cX3_become 113 = .ok (.goto (-49), 3) := by decide +kernel
theorem dX3_become_116 : decode cX3_become 116 = .ok (.return_, 1) := by decide +kernel
theorem dX3_becomeInThings_0 : decode cX3_becomeInThings 0 = .ok (.aload_n 0, 1) := by decide +kernel
theorem dX3_becomeInThings_1 : decode cX3_becomeInThings 1 = .ok (.aload_n 1, 1) := by decide +kernel
theorem dX3_becomeInThings_2 : decode cX3_becomeInThings 2 = .ok (.getfield 56, 3) := by decide +kernel
theorem dX3_becomeInThings_5 : decode cX3_becomeInThings 5 = .ok (.putfield 56, 3) := by decide +kernel
theorem dX3_becomeInThings_8 : decode cX3_becomeInThings 8 = .ok (.iconst 0, 1) := by decide +kernel
theorem dX3_becomeInThings_9 : decode cX3_becomeInThings 9 = .ok (.istore_n 2, 1) := by decide +kernel
theorem dX3_becomeInThings_10 : decode cX3_becomeInThings 10 = .ok (.iload_n 2, 1) := by decide +kernel
theorem dX3_becomeInThings_11 : decode cX3_becomeInThings 11 = .ok (.aload_n 0, 1) := by decide +kernel
theorem dX3_becomeInThings_12 : decode cX3_becomeInThings 12 = .ok (.getfield 56, 3) := by decide +kernel
theorem dX3_becomeInThings_15 : decode cX3_becomeInThings 15 = .ok (.if_icmp .ge 37, 3) := by decide +kernel
theorem dX3_becomeInThings_18 : decode cX3_becomeInThings 18 = .ok (.aload_n 0, 1) := by decide +kernel
theorem dX3_becomeInThings_19 : decode cX3_becomeInThings 19 = .ok (.iload_n 2, 1) := by decide +kernel
theorem dX3_becomeInThings_20 : decode cX3_becomeInThings 20 = .ok (.invokevirtual 59, 3) := by decide +kernel
theorem dX3_becomeInThings_23 : decode cX3_becomeInThings 23 = .ok (.astore_n 3, 1) := by decide +kernel
theorem dX3_becomeInThings_24 : decode cX3_becomeInThings 24 = .ok (.aload_n 1, 1) := by decide +kernel
theorem dX3_becomeInThings_25 : decode cX3_becomeInThings 25 = .ok (.iload_n 2, 1) := by decide +kernel
theorem dX3_becomeInThings_26 : decode cX3_becomeInThings 26 = .ok (.invokevirtual 59, 3) := by decide +kernel
theorem dX3_becomeInThings_29 : decode cX3_becomeInThings 29 = .ok (.astore 4, 2) := by decide +kernel
theorem dX3_becomeInThings_31 : decode cX3_becomeInThings 31 = .ok (.aload_n 3, 1) := by decide +kernel
theorem dX3_becomeInThings_32 : decode cX3_becomeInThings 32 = .ok (.ifnull 14, 3) := by decide +kernel
theorem dX3_becomeInThings_35 : decode cX3_becomeInThings 35 = .ok (.aload 4, 2) := by decide +kernel
theorem dX3_becomeInThings_37 : decode cX3_becomeInThings 37 = .ok (.ifnull 9, 3) := by decide +kernel
theorem dX3_becomeInThings_40 : decode cX3_becomeInThings 40 = .ok (.aload_n 3, 1) := by decide +kernel
theorem dX3_becomeInThings_41 : decode cX3_becomeInThings 41 = .ok (.aload 4, 2) := by decide +kernel
theorem dX3_becomeInThings_43 : decode cX3_becomeInThings 43 = .ok (.invokevirtual 63, 3) := by decide +kernel
theorem dX3_becomeInThings_46 : decode cX3_becomeInThings 46 = .ok (.iinc 2 1, 3) := by decide +kernel
theorem dX3_becomeInThings_49 : decode cX3_becomeInThings 49 = .ok (.goto (-39), 3) := by decide +kernel
theorem dX3_becomeInThings_52 : decode cX3_becomeInThings 52 = .ok (.return_, 1) := by decide +kernel
theorem dX3_becomeInFrames_0 : decode cX3_becomeInFrames 0 = .ok (.aload_n 0, 1) := by decide +kernel
theorem dX3_becomeInFrames_1 : decode cX3_becomeInFrames 1 = .ok (.aload_n 1, 1) := by decide +kernel
theorem dX3_becomeInFrames_2 : decode cX3_becomeInFrames 2 = .ok (.getfield 67, 3) := by decide +kernel
theorem dX3_becomeInFrames_5 : decode cX3_becomeInFrames 5 = .ok (.putfield 67, 3) := by decide +kernel
theorem dX3_becomeInFrames_8 : decode cX3_becomeInFrames 8 = .ok (.aload_n 0, 1) := by decide +kernel
theorem dX3_becomeInFrames_9 : decode cX3_becomeInFrames 9 = .ok (.aload_n 1, 1) := by decide +kernel
theorem dX3_becomeInFrames_10 : decode cX3_becomeInFrames 10 = .ok (.getfield 70, 3) := by decide +kernel
theorem dX3_becomeInFrames_13 : decode cX3_becomeInFrames 13 = .ok (.putfield 70, 3) := by decide +kernel
theorem dX3_becomeInFrames_16 : decode cX3_becomeInFrames 16 = .ok (.iconst 0, 1) := by decide +kernel
theorem dX3_becomeInFrames_17 : decode cX3_becomeInFrames 17 = .ok (.istore_n 2, 1) := by decide +kernel
theorem dX3_becomeInFrames_18 : decode cX3_becomeInFrames 18 = .ok (.iload_n 2, 1) := by decide +kernel
theorem dX3_becomeInFrames_19 : decode cX3_becomeInFrames 19 = .ok (.aload_n 0, 1) := by decide +kernel
theorem dX3_becomeInFrames_20 : decode cX3_becomeInFrames 20 = .ok (.getfield 67, 3) := by decide +kernel
theorem dX3_becomeInFrames_23 : decode cX3_becomeInFrames 23 = .ok (.if_icmp .ge 37, 3) := by decide +kernel
theorem dX3_becomeInFrames_26 : decode cX3_becomeInFrames 26 = .ok (.aload_n 0, 1) := by decide +kernel
theorem dX3_becomeInFrames_27 : decode cX3_becomeInFrames 27 = .ok (.iload_n 2, 1) := by decide +kernel
theorem dX3_becomeInFrames_28 : decode cX3_becomeInFrames 28 = .ok (.invokevirtual 73, 3) := by decide +kernel
theorem dX3_becomeInFrames_31 : decode cX3_becomeInFrames 31 = .ok (.astore_n 3, 1) := by decide +kernel
theorem dX3_becomeInFrames_32 : decode cX3_becomeInFrames 32 = .ok (.aload_n 1, 1) := by decide +kernel
theorem dX3_becomeInFrames_33 : decode cX3_becomeInFrames 33 = .ok (.iload_n 2, 1) := by decide +kernel
theorem dX3_becomeInFrames_34 : decode cX3_becomeInFrames 34 = .ok (.invokevirtual 73, 3) := by decide +kernel
theorem dX3_becomeInFrames_37 : decode cX3_becomeInFrames 37 = .ok (.astore 4, 2) := by decide +kernel
theorem dX3_becomeInFrames_39 : decode cX3_becomeInFrames 39 = .ok (.aload_n 3, 1) := by decide +kernel
theorem dX3_becomeInFrames_40 : decode cX3_becomeInFrames 40 = .ok (.ifnull 14, 3) := by decide +kernel
theorem dX3_becomeInFrames_43 : decode cX3_becomeInFrames 43 = .ok (.aload 4, 2) := by decide +kernel
theorem dX3_becomeInFrames_45 : decode cX3_becomeInFrames 45 = .ok (.ifnull 9, 3) := by decide +kernel
theorem dX3_becomeInFrames_48 : decode cX3_becomeInFrames 48 = .ok (.aload_n 3, 1) := by decide +kernel
theorem dX3_becomeInFrames_49 : decode cX3_becomeInFrames 49 = .ok (.aload 4, 2) := by decide +kernel
theorem dX3_becomeInFrames_51 : decode cX3_becomeInFrames 51 = .ok (.invokevirtual 77, 3) := by decide +kernel
theorem dX3_becomeInFrames_54 : decode cX3_becomeInFrames 54 = .ok (.iinc 2 1, 3) := by decide +kernel
theorem dX3_becomeInFrames_57 : decode cX3_becomeInFrames 57 = .ok (.goto (-39), 3) := by decide +kernel
theorem dX3_becomeInFrames_60 : decode cX3_becomeInFrames 60 = .ok (.return_, 1) := by decide +kernel
theorem dX3_setting_0 : decode cX3_setting 0 = .ok (.aload_n 0, 1) := by decide +kernel
theorem dX3_setting_1 : decode cX3_setting 1 = .ok (.getfield 9, 3) := by decide +kernel
theorem dX3_setting_4 : decode cX3_setting 4 = .ok (.iload_n 1, 1) := by decide +kernel
theorem dX3_setting_5 : decode cX3_setting 5 = .ok (.invokestatic 36, 3) := by decide +kernel
theorem dX3_setting_8 : decode cX3_setting 8 = .ok (.ireturn, 1) := by decide +kernel
theorem dX3_changeSetting_0 : decode cX3_changeSetting 0 = .ok (.iload_n 1, 1) := by decide +kernel
theorem dX3_changeSetting_1 : decode cX3_changeSetting 1 = .ok (.ifCond .lt 19, 3) := by decide +kernel
theorem dX3_changeSetting_4 : decode cX3_changeSetting 4 = .ok (.iload_n 1, 1) := by decide +kernel
theorem dX3_changeSetting_5 : decode cX3_changeSetting 5 = .ok (.aload_n 0, 1) := by decide +kernel
theorem dX3_changeSetting_6 : decode cX3_changeSetting 6 = .ok (.getfield 9, 3) := by decide +kernel
theorem dX3_changeSetting_9 : decode cX3_changeSetting 9 = .ok (.arraylength, 1) := by decide +kernel
theorem dX3_changeSetting_10 : decode cX3_changeSetting 10 = .ok (.if_icmp .ge 10, 3) := by decide +kernel
theorem dX3_changeSetting_13 : decode cX3_changeSetting 13 = .ok (.aload_n 0, 1) := by decide +kernel
theorem dX3_changeSetting_14 : decode cX3_changeSetting 14 = .ok (.getfield 9, 3) := by decide +kernel
theorem dX3_changeSetting_17 : decode cX3_changeSetting 17 = .ok (.iload_n 1, 1) := by decide +kernel
theorem dX3_changeSetting_18 : decode cX3_changeSetting 18 = .ok (.iload_n 2, 1) := by decide +kernel
theorem dX3_changeSetting_19 : decode cX3_changeSetting 19 = .ok (.iastore, 1) := by decide +kernel
theorem dX3_changeSetting_20 : decode cX3_changeSetting 20 = .ok (.return_, 1) := by decide +kernel
theorem dX3_thingAt_0 : decode cX3_thingAt 0 = .ok (.iload_n 1, 1) := by decide +kernel
theorem dX3_thingAt_1 : decode cX3_thingAt 1 = .ok (.ifCond .lt 29, 3) := by decide +kernel
theorem dX3_thingAt_4 : decode cX3_thingAt 4 = .ok (.iload_n 1, 1) := by decide +kernel
theorem dX3_thingAt_5 : decode cX3_thingAt 5 = .ok (.aload_n 0, 1) := by decide +kernel
theorem dX3_thingAt_6 : decode cX3_thingAt 6 = .ok (.getfield 56, 3) := by decide +kernel
theorem dX3_thingAt_9 : decode cX3_thingAt 9 = .ok (.if_icmp .ge 21, 3) := by decide +kernel
theorem dX3_thingAt_12 : decode cX3_thingAt 12 = .ok (.iload_n 1, 1) := by decide +kernel
theorem dX3_thingAt_13 : decode cX3_thingAt 13 = .ok (.aload_n 0, 1) := by decide +kernel
theorem dX3_thingAt_14 : decode cX3_thingAt 14 = .ok (.getfield 17, 3) := by decide +kernel
theorem dX3_thingAt_17 : decode cX3_thingAt 17 = .ok (.arraylength, 1) := by decide +kernel
theorem dX3_thingAt_18 : decode cX3_thingAt 18 = .ok (.if_icmp .ge 12, 3) := by decide +kernel
theorem dX3_thingAt_21 : decode cX3_thingAt 21 = .ok (.aload_n 0, 1) := by decide +kernel
theorem dX3_thingAt_22 : decode cX3_thingAt 22 = .ok (.getfield 17, 3) := by decide +kernel
theorem dX3_thingAt_25 : decode cX3_thingAt 25 = .ok (.iload_n 1, 1) := by decide +kernel
theorem dX3_thingAt_26 : decode cX3_thingAt 26 = .ok (.aaload, 1) := by decide +kernel
theorem dX3_thingAt_27 : decode cX3_thingAt 27 = .ok (.goto 4, 3) := by decide +kernel
theorem dX3_thingAt_30 : decode cX3_thingAt 30 = .ok (.aconst_null, 1) := by decide +kernel
theorem dX3_thingAt_31 : decode cX3_thingAt 31 = .ok (.areturn, 1) := by decide +kernel
theorem dX3_addThing_0 : decode cX3_addThing 0 = .ok (.aload_n 0, 1) := by decide +kernel
theorem dX3_addThing_1 : decode cX3_addThing 1 = .ok (.getfield 56, 3) := by decide +kernel
theorem dX3_addThing_4 : decode cX3_addThing 4 = .ok (.ifCond .lt 15, 3) := by decide +kernel
theorem dX3_addThing_7 : decode cX3_addThing 7 = .ok (.aload_n 0, 1) := by decide +kernel
theorem dX3_addThing_8 : decode cX3_addThing 8 = .ok (.getfield 56, 3) := by decide +kernel
theorem dX3_addThing_11 : decode cX3_addThing 11 = .ok (.aload_n 0, 1) := by decide +kernel
theorem dX3_addThing_12 : decode cX3_addThing 12 = .ok (.getfield 17, 3) := by decide +kernel
theorem dX3_addThing_15 : decode cX3_addThing 15 = .ok (.arraylength, 1) := by decide +kernel
theorem dX3_addThing_16 : decode cX3_addThing 16 = .ok (.if_icmp .lt 4, 3) := by decide +kernel
theorem dX3_addThing_19 : decode cX3_addThing 19 = .ok (.return_, 1) := by decide +kernel
theorem dX3_addThing_20 : decode cX3_addThing 20 = .ok (.aload_n 0, 1) := by decide +kernel
theorem dX3_addThing_21 : decode cX3_addThing 21 = .ok (.getfield 17, 3) := by decide +kernel
theorem dX3_addThing_24 : decode cX3_addThing 24 = .ok (.aload_n 0, 1) := by decide +kernel
theorem dX3_addThing_25 : decode cX3_addThing 25 = .ok (.getfield 56, 3) := by decide +kernel
theorem dX3_addThing_28 : decode cX3_addThing 28 = .ok (.aaload, 1) := by decide +kernel
theorem dX3_addThing_29 : decode cX3_addThing 29 = .ok (.astore 7, 2) := by decide +kernel
theorem dX3_addThing_31 : decode cX3_addThing 31 = .ok (.aload 7, 2) := by decide +kernel
theorem dX3_addThing_33 : decode cX3_addThing 33 = .ok (.ifnonnull 4, 3) := by decide +kernel
theorem dX3_addThing_36 : decode cX3_addThing 36 = .ok (.return_, 1) := by decide +kernel
theorem dX3_addThing_37 : decode cX3_addThing 37 = .ok (.aload 7, 2) := by decide +kernel
theorem dX3_addThing_39 : decode cX3_addThing 39 = .ok (.iload_n 1, 1) := by decide +kernel
theorem dX3_addThing_40 : decode cX3_addThing 40 = .ok (.putfield 80, 3) := by decide +kernel
theorem dX3_addThing_43 : decode cX3_addThing 43 = .ok (.aload 7, 2) := by decide +kernel
theorem dX3_addThing_45 : decode cX3_addThing 45 = .ok (.iload_n 2, 1) := by decide +kernel
theorem dX3_addThing_46 : decode cX3_addThing 46 = .ok (.putfield 83, 3) := by decide +kernel
theorem dX3_addThing_49 : decode cX3_addThing 49 = .ok (.aload 7, 2) := by decide +kernel
theorem dX3_addThing_51 : decode cX3_addThing 51 = .ok (.iload_n 3, 1) := by decide +kernel
theorem dX3_addThing_52 : decode cX3_addThing 52 = .ok (.putfield 86, 3) := by decide +kernel
theorem dX3_addThing_55 : decode cX3_addThing 55 = .ok (.aload 7, 2) := by decide +kernel
theorem dX3_addThing_57 : decode cX3_addThing 57 = .ok (.iload 4, 2) := by decide +kernel
theorem dX3_addThing_59 : decode cX3_addThing 59 = .ok (.putfield 89, 3) := by decide +kernel
theorem dX3_addThing_62 : decode cX3_addThing 62 = .ok (.aload 7, 2) := by decide +kernel
theorem dX3_addThing_64 : decode cX3_addThing 64 = .ok (.iload 5, 2) := by decide +kernel
theorem dX3_addThing_66 : decode cX3_addThing 66 = .ok (.putfield 92, 3) := by decide +kernel
theorem dX3_addThing_69 : decode cX3_addThing 69 = .ok (.aload 7, 2) := by decide +kernel
theorem dX3_addThing_71 : decode cX3_addThing 71 = .ok (.iload 6, 2) := by decide +kernel
theorem dX3_addThing_73 : decode cX3_addThing 73 = .ok (.putfield 95, 3) := by decide +kernel
theorem dX3_addThing_76 : decode cX3_addThing 76 = .ok (.aload_n 0, 1) := by decide +kernel
theorem dX3_addThing_77 : decode cX3_addThing 77 = .ok (.dup, 1) := by decide +kernel
theorem dX3_addThing_78 : decode cX3_addThing 78 = .ok (.getfield 56, 3) := by decide +kernel
theorem dX3_addThing_81 : decode cX3_addThing 81 = .ok (.iconst 1, 1) := by decide +kernel
theorem dX3_addThing_82 : decode cX3_addThing 82 = .ok (.iadd, 1) := by decide +kernel
theorem dX3_addThing_83 : decode cX3_addThing 83 = .ok (.putfield 56, 3) := by decide +kernel
theorem dX3_addThing_86 : decode cX3_addThing 86 = .ok (.return_, 1) := by decide +kernel
theorem dX3_frameAt_0 : decode cX3_frameAt 0 = .ok (.iload_n 1, 1) := by decide +kernel
theorem dX3_frameAt_1 : decode cX3_frameAt 1 = .ok (.ifCond .lt 29, 3) := by decide +kernel
theorem dX3_frameAt_4 : decode cX3_frameAt 4 = .ok (.iload_n 1, 1) := by decide +kernel
theorem dX3_frameAt_5 : decode cX3_frameAt 5 = .ok (.aload_n 0, 1) := by decide +kernel
theorem dX3_frameAt_6 : decode cX3_frameAt 6 = .ok (.getfield 67, 3) := by decide +kernel
theorem dX3_frameAt_9 : decode cX3_frameAt 9 = .ok (.if_icmp .ge 21, 3) := by decide +kernel
theorem dX3_frameAt_12 : decode cX3_frameAt 12 = .ok (.iload_n 1, 1) := by decide +kernel
theorem dX3_frameAt_13 : decode cX3_frameAt 13 = .ok (.aload_n 0, 1) := by decide +kernel
theorem dX3_frameAt_14 : decode cX3_frameAt 14 = .ok (.getfield 23, 3) := by decide +kernel
theorem dX3_frameAt_17 : decode cX3_frameAt 17 = .ok (.arraylength, 1) := by decide +kernel
theorem dX3_frameAt_18 : decode cX3_frameAt 18 = .ok (.if_icmp .ge 12, 3) := by decide +kernel
theorem dX3_frameAt_21 : decode cX3_frameAt 21 = .ok (.aload_n 0, 1) := by decide +kernel
theorem dX3_frameAt_22 : decode cX3_frameAt 22 = .ok (.getfield 23, 3) := by decide +kernel
theorem dX3_frameAt_25 : decode cX3_frameAt 25 = .ok (.iload_n 1, 1) := by decide +kernel
theorem dX3_frameAt_26 : decode cX3_frameAt 26 = .ok (.aaload, 1) := by decide +kernel
theorem dX3_frameAt_27 : decode cX3_frameAt 27 = .ok (.goto 4, 3) := by decide +kernel
theorem dX3_frameAt_30 : decode cX3_frameAt 30 = .ok (.aconst_null, 1) := by decide +kernel
theorem dX3_frameAt_31 : decode cX3_frameAt 31 = .ok (.areturn, 1) := by decide +kernel
theorem dX3_takeFrame_0 : decode cX3_takeFrame 0 = .ok (.aload_n 0, 1) := by decide +kernel
theorem dX3_takeFrame_1 : decode cX3_takeFrame 1 = .ok (.getfield 67, 3) := by decide +kernel
theorem dX3_takeFrame_4 : decode cX3_takeFrame 4 = .ok (.aload_n 0, 1) := by decide +kernel
theorem dX3_takeFrame_5 : decode cX3_takeFrame 5 = .ok (.getfield 23, 3) := by decide +kernel
theorem dX3_takeFrame_8 : decode cX3_takeFrame 8 = .ok (.arraylength, 1) := by decide +kernel
theorem dX3_takeFrame_9 : decode cX3_takeFrame 9 = .ok (.if_icmp .lt 8, 3) := by decide +kernel
theorem dX3_takeFrame_12 : decode cX3_takeFrame 12 = .ok (.aload_n 0, 1) := by decide +kernel
theorem dX3_takeFrame_13 : decode cX3_takeFrame 13 = .ok (.iconst 0, 1) := by decide +kernel
theorem dX3_takeFrame_14 : decode cX3_takeFrame 14 = .ok (.invokevirtual 98, 3) := by decide +kernel
theorem dX3_takeFrame_17 : decode cX3_takeFrame 17 = .ok (.aload_n 0, 1) := by decide +kernel
theorem dX3_takeFrame_18 : decode cX3_takeFrame 18 = .ok (.dup, 1) := by decide +kernel
theorem dX3_takeFrame_19 : decode cX3_takeFrame 19 = .ok (.getfield 70, 3) := by decide +kernel
theorem dX3_takeFrame_22 : decode cX3_takeFrame 22 = .ok (.iconst 1, 1) := by decide +kernel
theorem dX3_takeFrame_23 : decode cX3_takeFrame 23 = .ok (.iadd, 1) := by decide +kernel
theorem dX3_takeFrame_24 : decode cX3_takeFrame 24 = .ok (.putfield 70, 3) := by decide +kernel
theorem dX3_takeFrame_27 : decode cX3_takeFrame 27 = .ok (.aload_n 0, 1) := by decide +kernel
theorem dX3_takeFrame_28 : decode cX3_takeFrame 28 = .ok (.dup, 1) := by decide +kernel
theorem dX3_takeFrame_29 : decode cX3_takeFrame 29 = .ok (.getfield 67, 3) := by decide +kernel
theorem dX3_takeFrame_32 : decode cX3_takeFrame 32 = .ok (.iconst 1, 1) := by decide +kernel
theorem dX3_takeFrame_33 : decode cX3_takeFrame 33 = .ok (.iadd, 1) := by decide +kernel
theorem dX3_takeFrame_34 : decode cX3_takeFrame 34 = .ok (.putfield 67, 3) := by decide +kernel
theorem dX3_takeFrame_37 : decode cX3_takeFrame 37 = .ok (.aload_n 0, 1) := by decide +kernel
theorem dX3_takeFrame_38 : decode cX3_takeFrame 38 = .ok (.aload_n 0, 1) := by decide +kernel
theorem dX3_takeFrame_39 : decode cX3_takeFrame 39 = .ok (.getfield 67, 3) := by decide +kernel
theorem dX3_takeFrame_42 : decode cX3_takeFrame 42 = .ok (.iconst 1, 1) := by decide +kernel
theorem dX3_takeFrame_43 : decode cX3_takeFrame 43 = .ok (.isub, 1) := by decide +kernel
theorem dX3_takeFrame_44 : decode cX3_takeFrame 44 = .ok (.invokevirtual 73, 3) := by decide +kernel
theorem dX3_takeFrame_47 : decode cX3_takeFrame 47 = .ok (.astore_n 2, 1) := by decide +kernel
theorem dX3_takeFrame_48 : decode cX3_takeFrame 48 = .ok (.aload_n 2, 1) := by decide +kernel
theorem dX3_takeFrame_49 : decode cX3_takeFrame 49 = .ok (.ifnull 13, 3) := by decide +kernel
theorem dX3_takeFrame_52 : decode cX3_takeFrame 52 = .ok (.aload_n 0, 1) := by decide +kernel
theorem dX3_takeFrame_53 : decode cX3_takeFrame 53 = .ok (.aload_n 2, 1) := by decide +kernel
theorem dX3_takeFrame_54 : decode cX3_takeFrame 54 = .ok (.aload_n 0, 1) := by decide +kernel
theorem dX3_takeFrame_55 : decode cX3_takeFrame 55 = .ok (.getfield 49, 3) := by decide +kernel
theorem dX3_takeFrame_58 : decode cX3_takeFrame 58 = .ok (.aload_n 1, 1) := by decide +kernel
theorem dX3_takeFrame_59 : decode cX3_takeFrame 59 = .ok (.invokevirtual 102, 3) := by decide +kernel
theorem dX3_takeFrame_62 : decode cX3_takeFrame 62 = .ok (.return_, 1) := by decide +kernel
theorem dX3_dropFrame_0 : decode cX3_dropFrame 0 = .ok (.aload_n 0, 1) := by decide +kernel
theorem dX3_dropFrame_1 : decode cX3_dropFrame 1 = .ok (.iload_n 1, 1) := by decide +kernel
theorem dX3_dropFrame_2 : decode cX3_dropFrame 2 = .ok (.invokevirtual 73, 3) := by decide +kernel
theorem dX3_dropFrame_5 : decode cX3_dropFrame 5 = .ok (.astore_n 2, 1) := by decide +kernel
theorem dX3_dropFrame_6 : decode cX3_dropFrame 6 = .ok (.aload_n 2, 1) := by decide +kernel
theorem dX3_dropFrame_7 : decode cX3_dropFrame 7 = .ok (.ifnonnull 4, 3) := by decide +kernel
theorem dX3_dropFrame_10 : decode cX3_dropFrame 10 = .ok (.return_, 1) := by decide +kernel
theorem dX3_dropFrame_11 : decode cX3_dropFrame 11 = .ok (.iload_n 1, 1) := by decide +kernel
theorem dX3_dropFrame_12 : decode cX3_dropFrame 12 = .ok (.iconst 1, 1) := by decide +kernel
theorem dX3_dropFrame_13 : decode cX3_dropFrame 13 = .ok (.iadd, 1) := by decide +kernel
theorem dX3_dropFrame_14 : decode cX3_dropFrame 14 = .ok (.istore_n 3, 1) := by decide +kernel
theorem dX3_dropFrame_15 : decode cX3_dropFrame 15 = .ok (.iload_n 3, 1) := by decide +kernel
theorem dX3_dropFrame_16 : decode cX3_dropFrame 16 = .ok (.aload_n 0, 1) := by decide +kernel
theorem dX3_dropFrame_17 : decode cX3_dropFrame 17 = .ok (.getfield 67, 3) := by decide +kernel
theorem dX3_dropFrame_20 : decode cX3_dropFrame 20 = .ok (.if_icmp .ge 32, 3) := by decide +kernel
theorem dX3_dropFrame_23 : decode cX3_dropFrame 23 = .ok (.iload_n 3, 1) := by decide +kernel
theorem dX3_dropFrame_24 : decode cX3_dropFrame 24 = .ok (.aload_n 0, 1) := by decide +kernel
theorem dX3_dropFrame_25 : decode cX3_dropFrame 25 = .ok (.getfield 23, 3) := by decide +kernel
theorem dX3_dropFrame_28 : decode cX3_dropFrame 28 = .ok (.arraylength, 1) := by decide +kernel
theorem dX3_dropFrame_29 : decode cX3_dropFrame 29 = .ok (.if_icmp .ge 23, 3) := by decide +kernel
theorem dX3_dropFrame_32 : decode cX3_dropFrame 32 = .ok (.aload_n 0, 1) := by decide +kernel
theorem dX3_dropFrame_33 : decode cX3_dropFrame 33 = .ok (.getfield 23, 3) := by decide +kernel
theorem dX3_dropFrame_36 : decode cX3_dropFrame 36 = .ok (.iload_n 3, 1) := by decide +kernel
theorem dX3_dropFrame_37 : decode cX3_dropFrame 37 = .ok (.iconst 1, 1) := by decide +kernel
theorem dX3_dropFrame_38 : decode cX3_dropFrame 38 = .ok (.isub, 1) := by decide +kernel
theorem dX3_dropFrame_39 : decode cX3_dropFrame 39 = .ok (.aload_n 0, 1) := by decide +kernel
theorem dX3_dropFrame_40 : decode cX3_dropFrame 40 = .ok (.getfield 23, 3) := by decide +kernel
theorem dX3_dropFrame_43 : decode cX3_dropFrame 43 = .ok (.iload_n 3, 1) := by decide +kernel
theorem dX3_dropFrame_44 : decode cX3_dropFrame 44 = .ok (.aaload, 1) := by decide +kernel
theorem dX3_dropFrame_45 : decode cX3_dropFrame 45 = .ok (.aastore, 1) := by decide +kernel
theorem dX3_dropFrame_46 : decode cX3_dropFrame 46 = .ok (.iinc 3 1, 3) := by decide +kernel
theorem dX3_dropFrame_49 : decode cX3_dropFrame 49 = .ok (.goto (-34), 3) := by decide +kernel
theorem dX3_dropFrame_52 : decode cX3_dropFrame 52 = .ok (.aload_n 0, 1) := by decide +kernel
theorem dX3_dropFrame_53 : decode cX3_dropFrame 53 = .ok (.getfield 67, 3) := by decide +kernel
theorem dX3_dropFrame_56 : decode cX3_dropFrame 56 = .ok (.iconst 1, 1) := by decide +kernel
theorem dX3_dropFrame_57 : decode cX3_dropFrame 57 = .ok (.isub, 1) := by decide +kernel
theorem dX3_dropFrame_58 : decode cX3_dropFrame 58 = .ok (.istore_n 3, 1) := by decide +kernel
theorem dX3_dropFrame_59 : decode cX3_dropFrame 59 = .ok (.iload_n 3, 1) := by decide +kernel
theorem dX3_dropFrame_60 : decode cX3_dropFrame 60 = .ok (.ifCond .lt 24, 3) := by decide +kernel
theorem dX3_dropFrame_63 : decode cX3_dropFrame 63 = .ok (.iload_n 3, 1) := by decide +kernel
theorem dX3_dropFrame_64 : decode cX3_dropFrame 64 = .ok (.aload_n 0, 1) := by decide +kernel
theorem dX3_dropFrame_65 : decode cX3_dropFrame 65 = .ok (.getfield 23, 3) := by decide +kernel
theorem dX3_dropFrame_68 : decode cX3_dropFrame 68 = .ok (.arraylength, 1) := by decide +kernel
theorem dX3_dropFrame_69 : decode cX3_dropFrame 69 = .ok (.if_icmp .ge 15, 3) := by decide +kernel
theorem dX3_dropFrame_72 : decode cX3_dropFrame 72 = .ok (.aload_n 0, 1) := by decide +kernel
theorem dX3_dropFrame_73 : decode cX3_dropFrame 73 = .ok (.getfield 23, 3) := by decide +kernel
theorem dX3_dropFrame_76 : decode cX3_dropFrame 76 = .ok (.iload_n 3, 1) := by decide +kernel
theorem dX3_dropFrame_77 : decode cX3_dropFrame 77 = .ok (.aload_n 2, 1) := by decide +kernel
theorem dX3_dropFrame_78 : decode cX3_dropFrame 78 = .ok (.aastore, 1) := by decide +kernel
theorem dX3_dropFrame_79 : decode cX3_dropFrame 79 = .ok (.aload_n 0, 1) := by decide +kernel
theorem dX3_dropFrame_80 : decode cX3_dropFrame 80 = .ok (.iload_n 3, 1) := by decide +kernel
theorem dX3_dropFrame_81 : decode cX3_dropFrame 81 = .ok (.putfield 67, 3) := by decide +kernel
theorem dX3_dropFrame_84 : decode cX3_dropFrame 84 = .ok (.return_, 1) := by decide +kernel
theorem dX3_photograph_0 : decode cX3_photograph 0 = .ok (.aload_n 0, 1) := by decide +kernel
theorem dX3_photograph_1 : decode cX3_photograph 1 = .ok (.iconst 0, 1) := by decide +kernel
theorem dX3_photograph_2 : decode cX3_photograph 2 = .ok (.invokevirtual 106, 3) := by decide +kernel
theorem dX3_photograph_5 : decode cX3_photograph 5 = .ok (.istore 4, 2) := by decide +kernel
theorem dX3_photograph_7 : decode cX3_photograph 7 = .ok (.aload_n 1, 1) := by decide +kernel
theorem dX3_photograph_8 : decode cX3_photograph 8 = .ok (.iload_n 2, 1) := by decide +kernel
theorem dX3_photograph_9 : decode cX3_photograph 9 = .ok (.putfield 110, 3) := by decide +kernel
theorem dX3_photograph_12 : decode cX3_photograph 12 = .ok (.aload_n 1, 1) := by decide +kernel
theorem dX3_photograph_13 : decode cX3_photograph 13 = .ok (.aload_n 0, 1) := by decide +kernel
theorem dX3_photograph_14 : decode cX3_photograph 14 = .ok (.getfield 53, 3) := by decide +kernel
theorem dX3_photograph_17 : decode cX3_photograph 17 = .ok (.iconst 1, 1) := by decide +kernel
theorem dX3_photograph_18 : decode cX3_photograph 18 = .ok (.iload 4, 2) := by decide +kernel
theorem dX3_photograph_20 : decode cX3_photograph 20 = .ok (.ishl, 1) := by decide +kernel
theorem dX3_photograph_21 : decode cX3_photograph 21 = .ok (.iconst 1, 1) := by decide +kernel
theorem dX3_photograph_22 : decode cX3_photograph 22 = .ok (.isub, 1) := by decide +kernel
theorem dX3_photograph_23 : decode cX3_photograph 23 = .ok (.iand, 1) := by decide +kernel
theorem dX3_photograph_24 : decode cX3_photograph 24 = .ok (.putfield 111, 3) := by decide +kernel
theorem dX3_photograph_27 : decode cX3_photograph 27 = .ok (.iconst 0, 1) := by decide +kernel
theorem dX3_photograph_28 : decode cX3_photograph 28 = .ok (.istore 5, 2) := by decide +kernel
theorem dX3_photograph_30 : decode cX3_photograph 30 = .ok (.iload 5, 2) := by decide +kernel
theorem dX3_photograph_32 : decode cX3_photograph 32 = .ok (.iload 4, 2) := by decide +kernel
theorem dX3_photograph_34 : decode cX3_photograph 34 = .ok (.if_icmp .ge 54, 3) := by decide +kernel
theorem dX3_photograph_37 : decode cX3_photograph 37 = .ok (.aload_n 0, 1) := by decide +kernel
theorem dX3_photograph_38 : decode cX3_photograph 38 = .ok (.getfield 53, 3) := by decide +kernel
theorem dX3_photograph_41 : decode cX3_photograph 41 = .ok (.iload 5, 2) := by decide +kernel
theorem dX3_photograph_43 : decode cX3_photograph 43 = .ok (.invokestatic 112, 3) := by decide +kernel
theorem dX3_photograph_46 : decode cX3_photograph 46 = .ok (.ifCond .ne 36, 3) := by decide +kernel
theorem dX3_photograph_49 : decode cX3_photograph 49 = .ok (.aload_n 0, 1) := by decide +kernel
theorem dX3_photograph_50 : decode cX3_photograph 50 = .ok (.aload_n 1, 1) := by decide +kernel
theorem dX3_photograph_51 : decode cX3_photograph 51 = .ok (.iload 5, 2) := by decide +kernel
theorem dX3_photograph_53 : decode cX3_photograph 53 = .ok (.invokevirtual 116, 3) := by decide +kernel
theorem dX3_photograph_56 : decode cX3_photograph 56 = .ok (.istore 6, 2) := by decide +kernel
theorem dX3_photograph_58 : decode cX3_photograph 58 = .ok (.aload_n 0, 1) := by decide +kernel
theorem dX3_photograph_59 : decode cX3_photograph 59 = .ok (.iload 5, 2) := by decide +kernel
theorem dX3_photograph_61 : decode cX3_photograph 61 = .ok (.iload 6, 2) := by decide +kernel
theorem dX3_photograph_63 : decode cX3_photograph 63 = .ok (.iconst (-1), 1) := by decide +kernel
theorem dX3_photograph_64 : decode cX3_photograph 64 = .ok (.iconst 0, 1) := by decide +kernel
theorem dX3_photograph_65 : decode cX3_photograph 65 = .ok (.aload_n 3, 1) := by decide +kernel
theorem dX3_photograph_66 : decode cX3_photograph 66 = .ok (.invokevirtual 120, 3) := by decide +kernel
theorem dX3_photograph_69 : decode cX3_photograph 69 = .ok (.aload_n 1, 1) := by decide +kernel
theorem dX3_photograph_70 : decode cX3_photograph 70 = .ok (.iload 5, 2) := by decide +kernel
theorem dX3_photograph_72 : decode cX3_photograph 72 = .ok (.aload_n 3, 1) := by decide +kernel
theorem dX3_photograph_73 : decode cX3_photograph 73 = .ok (.aload_n 0, 1) := by decide +kernel
theorem dX3_photograph_74 : decode cX3_photograph 74 = .ok (.iload 6, 2) := by decide +kernel
theorem dX3_photograph_76 : decode cX3_photograph 76 = .ok (.invokevirtual 124, 3) := by decide +kernel
theorem dX3_photograph_79 : decode cX3_photograph 79 = .ok (.invokevirtual 127, 3) := by decide +kernel
theorem dX3_photograph_82 : decode cX3_photograph 82 = .ok (.iinc 5 1, 3) := by decide +kernel
theorem dX3_photograph_85 : decode cX3_photograph 85 = .ok (.goto (-55), 3) := by decide +kernel
theorem dX3_photograph_88 : decode cX3_photograph 88 = .ok (.return_, 1) := by decide +kernel
theorem dX3_timeOfRow_0 : decode cX3_timeOfRow 0 = .ok (.aload_n 1, 1) := by decide +kernel
theorem dX3_timeOfRow_1 : decode cX3_timeOfRow 1 = .ok (.getfield 110, 3) := by decide +kernel
theorem dX3_timeOfRow_4 : decode cX3_timeOfRow 4 = .ok (.iload_n 2, 1) := by decide +kernel
theorem dX3_timeOfRow_5 : decode cX3_timeOfRow 5 = .ok (.aload_n 0, 1) := by decide +kernel
theorem dX3_timeOfRow_6 : decode cX3_timeOfRow 6 = .ok (.iconst 2, 1) := by decide +kernel
theorem dX3_timeOfRow_7 : decode cX3_timeOfRow 7 = .ok (.invokevirtual 106, 3) := by decide +kernel
theorem dX3_timeOfRow_10 : decode cX3_timeOfRow 10 = .ok (.imul, 1) := by decide +kernel
theorem dX3_timeOfRow_11 : decode cX3_timeOfRow 11 = .ok (.iadd, 1) := by decide +kernel
theorem dX3_timeOfRow_12 : decode cX3_timeOfRow 12 = .ok (.ireturn, 1) := by decide +kernel
theorem dX3_percentAt_0 : decode cX3_percentAt 0 = .ok (.iload_n 1, 1) := by decide +kernel
theorem dX3_percentAt_1 : decode cX3_percentAt 1 = .ok (.aload_n 0, 1) := by decide +kernel
theorem dX3_percentAt_2 : decode cX3_percentAt 2 = .ok (.iconst 5, 1) := by decide +kernel
theorem dX3_percentAt_3 : decode cX3_percentAt 3 = .ok (.invokevirtual 106, 3) := by decide +kernel
theorem dX3_percentAt_6 : decode cX3_percentAt 6 = .ok (.aload_n 0, 1) := by decide +kernel
theorem dX3_percentAt_7 : decode cX3_percentAt 7 = .ok (.bipush 6, 2) := by decide +kernel
theorem dX3_percentAt_9 : decode cX3_percentAt 9 = .ok (.invokevirtual 106, 3) := by decide +kernel
theorem dX3_percentAt_12 : decode cX3_percentAt 12 = .ok (.invokestatic 131, 3) := by decide +kernel
theorem dX3_percentAt_15 : decode cX3_percentAt 15 = .ok (.ifCond .eq 12, 3) := by decide +kernel
theorem dX3_percentAt_18 : decode cX3_percentAt 18 = .ok (.aload_n 0, 1) := by decide +kernel
theorem dX3_percentAt_19 : decode cX3_percentAt 19 = .ok (.bipush 7, 2) := by decide +kernel
theorem dX3_percentAt_21 : decode cX3_percentAt 21 = .ok (.invokevirtual 106, 3) := by decide +kernel
theorem dX3_percentAt_24 : decode cX3_percentAt 24 = .ok (.goto 5, 3) := by decide +kernel
theorem dX3_percentAt_27 : decode cX3_percentAt 27 = .ok (.bipush 100, 2) := by decide +kernel
theorem dX3_percentAt_29 : decode cX3_percentAt 29 = .ok (.ireturn, 1) := by decide +kernel
theorem dX3_paint_0 : decode cX3_paint 0 = .ok (.aload_n 0, 1) := by decide +kernel
theorem dX3_paint_1 : decode cX3_paint 1 = .ok (.iconst 4, 1) := by decide +kernel
theorem dX3_paint_2 : decode cX3_paint 2 = .ok (.invokevirtual 106, 3) := by decide +kernel
theorem dX3_paint_5 : decode cX3_paint 5 = .ok (.istore 6, 2) := by decide +kernel
theorem dX3_paint_7 : decode cX3_paint 7 = .ok (.iconst 0, 1) := by decide +kernel
theorem dX3_paint_8 : decode cX3_paint 8 = .ok (.istore 7, 2) := by decide +kernel
theorem dX3_paint_10 : decode cX3_paint 10 = .ok (.iload 7, 2) := by decide +kernel
theorem dX3_paint_12 : decode cX3_paint 12 = .ok (.aload 5, 2) := by decide +kernel
theorem dX3_paint_14 : decode cX3_paint 14 = .ok (.arraylength, 1) := by decide +kernel
theorem dX3_paint_15 : decode cX3_paint 15 = .ok (.if_icmp .ge 16, 3) := by decide +kernel
theorem dX3_paint_18 : decode cX3_paint 18 = .ok (.aload 5, 2) := by decide +kernel
theorem dX3_paint_20 : decode cX3_paint 20 = .ok (.iload 7, 2) := by decide +kernel
theorem dX3_paint_22 : decode cX3_paint 22 = .ok (.iload 6, 2) := by decide +kernel
theorem dX3_paint_24 : decode cX3_paint 24 = .ok (.iastore, 1) := by decide +kernel
theorem dX3_paint_25 : decode cX3_paint 25 = .ok (.iinc 7 1, 3) := by decide +kernel
theorem dX3_paint_28 : decode cX3_paint 28 = .ok (.goto (-18), 3) := by decide +kernel
theorem dX3_paint_31 : decode cX3_paint 31 = .ok (.iconst 0, 1) := by decide +kernel
theorem dX3_paint_32 : decode cX3_paint 32 = .ok (.istore 7, 2) := by decide +kernel
theorem dX3_paint_34 : decode cX3_paint 34 = .ok (.iload 7, 2) := by decide +kernel
theorem dX3_paint_36 : decode cX3_paint 36 = .ok (.aload_n 0, 1) := by decide +kernel
theorem dX3_paint_37 : decode cX3_paint 37 = .ok (.getfield 56, 3) := by decide +kernel
theorem dX3_paint_40 : decode cX3_paint 40 = .ok (.if_icmp .ge 71, 3) := by decide +kernel
theorem dX3_paint_43 : decode cX3_paint 43 = .ok (.aload_n 0, 1) := by decide +kernel
theorem dX3_paint_44 : decode cX3_paint 44 = .ok (.iload 7, 2) := by decide +kernel
theorem dX3_paint_46 : decode cX3_paint 46 = .ok (.invokevirtual 59, 3) := by decide +kernel
theorem dX3_paint_49 : decode cX3_paint 49 = .ok (.astore 8, 2) := by decide +kernel
theorem dX3_paint_51 : decode cX3_paint 51 = .ok (.aload 8, 2) := by decide +kernel
theorem dX3_paint_53 : decode cX3_paint 53 = .ok (.ifnull 52, 3) := by decide +kernel
theorem dX3_paint_56 : decode cX3_paint 56 = .ok (.aload 8, 2) := by decide +kernel
theorem dX3_paint_58 : decode cX3_paint 58 = .ok (.iload_n 1, 1) := by decide +kernel
theorem dX3_paint_59 : decode cX3_paint 59 = .ok (.invokevirtual 135, 3) := by decide +kernel
theorem dX3_paint_62 : decode cX3_paint 62 = .ok (.ifCond .eq 43, 3) := by decide +kernel
theorem dX3_paint_65 : decode cX3_paint 65 = .ok (.iload 7, 2) := by decide +kernel
theorem dX3_paint_67 : decode cX3_paint 67 = .ok (.iload_n 3, 1) := by decide +kernel
theorem dX3_paint_68 : decode cX3_paint 68 = .ok (.if_icmp .ne 8, 3) := by decide +kernel
theorem dX3_paint_71 : decode cX3_paint 71 = .ok (.iload 4, 2) := by decide +kernel
theorem dX3_paint_73 : decode cX3_paint 73 = .ok (.goto 17, 3) := by decide +kernel
theorem dX3_paint_76 : decode cX3_paint 76 = .ok (.aload 8, 2) := by decide +kernel
theorem dX3_paint_78 : decode cX3_paint 78 = .ok (.iload_n 2, 1) := by decide +kernel
theorem dX3_paint_79 : decode cX3_paint 79 = .ok (.invokevirtual 139, 3) := by decide +kernel
theorem dX3_paint_82 : decode cX3_paint 82 = .ok (.aload 8, 2) := by decide +kernel
theorem dX3_paint_84 : decode cX3_paint 84 = .ok (.getfield 92, 3) := by decide +kernel
theorem dX3_paint_87 : decode cX3_paint 87 = .ok (.invokestatic 142, 3) := by decide +kernel
theorem dX3_paint_90 : decode cX3_paint 90 = .ok (.istore 9, 2) := by decide +kernel
theorem dX3_paint_92 : decode cX3_paint 92 = .ok (.aload_n 0, 1) := by decide +kernel
theorem dX3_paint_93 : decode cX3_paint 93 = .ok (.aload 5, 2) := by decide +kernel
theorem dX3_paint_95 : decode cX3_paint 95 = .ok (.iload 9, 2) := by decide +kernel
theorem dX3_paint_97 : decode cX3_paint 97 = .ok (.aload 8, 2) := by decide +kernel
theorem dX3_paint_99 : decode cX3_paint 99 = .ok (.getfield 95, 3) := by decide +kernel
theorem dX3_paint_102 : decode cX3_paint 102 = .ok (.invokevirtual 146, 3) := by decide +kernel
theorem dX3_paint_105 : decode cX3_paint 105 = .ok (.iinc 7 1, 3) := by decide +kernel
theorem dX3_paint_108 : decode cX3_paint 108 = .ok (.goto (-74), 3) := by decide +kernel
theorem dX3_paint_111 : decode cX3_paint 111 = .ok (.return_, 1) := by decide +kernel
theorem dX3_paintOver_0 : decode cX3_paintOver 0 = .ok (.iconst 0, 1) := by decide +kernel
theorem dX3_paintOver_1 : decode cX3_paintOver 1 = .ok (.istore 4, 2) := by decide +kernel
theorem dX3_paintOver_3 : decode cX3_paintOver 3 = .ok (.iload 4, 2) := by decide +kernel
theorem dX3_paintOver_5 : decode cX3_paintOver 5 = .ok (.aload_n 1, 1) := by decide +kernel
theorem dX3_paintOver_6 : decode cX3_paintOver 6 = .ok (.arraylength, 1) := by decide +kernel
theorem dX3_paintOver_7 : decode cX3_paintOver 7 = .ok (.if_icmp .ge 23, 3) := by decide +kernel
theorem dX3_paintOver_10 : decode cX3_paintOver 10 = .ok (.iload_n 2, 1) := by decide +kernel
theorem dX3_paintOver_11 : decode cX3_paintOver 11 = .ok (.iload 4, 2) := by decide +kernel
theorem dX3_paintOver_13 : decode cX3_paintOver 13 = .ok (.invokestatic 112, 3) := by decide +kernel
theorem dX3_paintOver_16 : decode cX3_paintOver 16 = .ok (.ifCond .eq 8, 3) := by decide +kernel
theorem dX3_paintOver_19 : decode cX3_paintOver 19 = .ok (.aload_n 1, 1) := by decide +kernel
theorem dX3_paintOver_20 : decode cX3_paintOver 20 = .ok (.iload 4, 2) := by decide +kernel
theorem dX3_paintOver_22 : decode cX3_paintOver 22 = .ok (.iload_n 3, 1) := by decide +kernel
theorem dX3_paintOver_23 : decode cX3_paintOver 23 = .ok (.iastore, 1) := by decide +kernel
theorem dX3_paintOver_24 : decode cX3_paintOver 24 = .ok (.iinc 4 1, 3) := by decide +kernel
theorem dX3_paintOver_27 : decode cX3_paintOver 27 = .ok (.goto (-24), 3) := by decide +kernel
theorem dX3_paintOver_30 : decode cX3_paintOver 30 = .ok (.return_, 1) := by decide +kernel
theorem dX3_edgesIn_0 : decode cX3_edgesIn 0 = .ok (.aload_n 0, 1) := by decide +kernel
theorem dX3_edgesIn_1 : decode cX3_edgesIn 1 = .ok (.iconst 3, 1) := by decide +kernel
theorem dX3_edgesIn_2 : decode cX3_edgesIn 2 = .ok (.invokevirtual 106, 3) := by decide +kernel
theorem dX3_edgesIn_5 : decode cX3_edgesIn 5 = .ok (.istore_n 3, 1) := by decide +kernel
theorem dX3_edgesIn_6 : decode cX3_edgesIn 6 = .ok (.iconst 0, 1) := by decide +kernel
theorem dX3_edgesIn_7 : decode cX3_edgesIn 7 = .ok (.istore 4, 2) := by decide +kernel
theorem dX3_edgesIn_9 : decode cX3_edgesIn 9 = .ok (.aload_n 1, 1) := by decide +kernel
theorem dX3_edgesIn_10 : decode cX3_edgesIn 10 = .ok (.getfield 111, 3) := by decide +kernel
theorem dX3_edgesIn_13 : decode cX3_edgesIn 13 = .ok (.iload_n 2, 1) := by decide +kernel
theorem dX3_edgesIn_14 : decode cX3_edgesIn 14 = .ok (.invokestatic 112, 3) := by decide +kernel
theorem dX3_edgesIn_17 : decode cX3_edgesIn 17 = .ok (.ifCond .eq 5, 3) := by decide +kernel
theorem dX3_edgesIn_20 : decode cX3_edgesIn 20 = .ok (.iconst 0, 1) := by decide +kernel
theorem dX3_edgesIn_21 : decode cX3_edgesIn 21 = .ok (.ireturn, 1) := by decide +kernel
theorem dX3_edgesIn_22 : decode cX3_edgesIn 22 = .ok (.iconst 1, 1) := by decide +kernel
theorem dX3_edgesIn_23 : decode cX3_edgesIn 23 = .ok (.istore 5, 2) := by decide +kernel
theorem dX3_edgesIn_25 : decode cX3_edgesIn 25 = .ok (.iload 5, 2) := by decide +kernel
theorem dX3_edgesIn_27 : decode cX3_edgesIn 27 = .ok (.aload_n 0, 1) := by decide +kernel
theorem dX3_edgesIn_28 : decode cX3_edgesIn 28 = .ok (.iconst 1, 1) := by decide +kernel
theorem dX3_edgesIn_29 : decode cX3_edgesIn 29 = .ok (.invokevirtual 106, 3) := by decide +kernel
theorem dX3_edgesIn_32 : decode cX3_edgesIn 32 = .ok (.if_icmp .ge 46, 3) := by decide +kernel
theorem dX3_edgesIn_35 : decode cX3_edgesIn 35 = .ok (.aload_n 1, 1) := by decide +kernel
theorem dX3_edgesIn_36 : decode cX3_edgesIn 36 = .ok (.iload_n 2, 1) := by decide +kernel
theorem dX3_edgesIn_37 : decode cX3_edgesIn 37 = .ok (.iload 5, 2) := by decide +kernel
theorem dX3_edgesIn_39 : decode cX3_edgesIn 39 = .ok (.invokevirtual 150, 3) := by decide +kernel
theorem dX3_edgesIn_42 : decode cX3_edgesIn 42 = .ok (.aload_n 1, 1) := by decide +kernel
theorem dX3_edgesIn_43 : decode cX3_edgesIn 43 = .ok (.iload_n 2, 1) := by decide +kernel
theorem dX3_edgesIn_44 : decode cX3_edgesIn 44 = .ok (.iload 5, 2) := by decide +kernel
theorem dX3_edgesIn_46 : decode cX3_edgesIn 46 = .ok (.iconst 1, 1) := by decide +kernel
theorem dX3_edgesIn_47 : decode cX3_edgesIn 47 = .ok (.isub, 1) := by decide +kernel
theorem dX3_edgesIn_48 : decode cX3_edgesIn 48 = .ok (.invokevirtual 150, 3) := by decide +kernel
theorem dX3_edgesIn_51 : decode cX3_edgesIn 51 = .ok (.isub, 1) := by decide +kernel
theorem dX3_edgesIn_52 : decode cX3_edgesIn 52 = .ok (.istore 6, 2) := by decide +kernel
theorem dX3_edgesIn_54 : decode cX3_edgesIn 54 = .ok (.iload 6, 2) := by decide +kernel
theorem dX3_edgesIn_56 : decode cX3_edgesIn 56 = .ok (.invokestatic 153, 3) := by decide +kernel
theorem dX3_edgesIn_59 : decode cX3_edgesIn 59 = .ok (.iload_n 3, 1) := by decide +kernel
theorem dX3_edgesIn_60 : decode cX3_edgesIn 60 = .ok (.if_icmp .lt 12, 3) := by decide +kernel
theorem dX3_edgesIn_63 : decode cX3_edgesIn 63 = .ok (.iload 4, 2) := by decide +kernel
theorem dX3_edgesIn_65 : decode cX3_edgesIn 65 = .ok (.iconst 1, 1) := by decide +kernel
theorem dX3_edgesIn_66 : decode cX3_edgesIn 66 = .ok (.iload 5, 2) := by decide +kernel
theorem dX3_edgesIn_68 : decode cX3_edgesIn 68 = .ok (.ishl, 1) := by decide +kernel
theorem dX3_edgesIn_69 : decode cX3_edgesIn 69 = .ok (.ior, 1) := by decide +kernel
theorem dX3_edgesIn_70 : decode cX3_edgesIn 70 = .ok (.istore 4, 2) := by decide +kernel
theorem dX3_edgesIn_72 : decode cX3_edgesIn 72 = .ok (.iinc 5 1, 3) := by decide +kernel
theorem dX3_edgesIn_75 : decode cX3_edgesIn 75 = .ok (.goto (-50), 3) := by decide +kernel
theorem dX3_edgesIn_78 : decode cX3_edgesIn 78 = .ok (.iload 4, 2) := by decide +kernel
theorem dX3_edgesIn_80 : decode cX3_edgesIn 80 = .ok (.ireturn, 1) := by decide +kernel
theorem dX3_judgeRows_0 : decode cX3_judgeRows 0 = .ok (.iconst 0, 1) := by decide +kernel
theorem dX3_judgeRows_1 : decode cX3_judgeRows 1 = .ok (.istore_n 3, 1) := by decide +kernel
theorem dX3_judgeRows_2 : decode cX3_judgeRows 2 = .ok (.iload_n 3, 1) := by decide +kernel
theorem dX3_judgeRows_3 : decode cX3_judgeRows 3 = .ok (.aload_n 0, 1) := by decide +kernel
theorem dX3_judgeRows_4 : decode cX3_judgeRows 4 = .ok (.getfield 27, 3) := by decide +kernel
theorem dX3_judgeRows_7 : decode cX3_judgeRows 7 = .ok (.arraylength, 1) := by decide +kernel
theorem dX3_judgeRows_8 : decode cX3_judgeRows 8 = .ok (.if_icmp .ge 57, 3) := by decide +kernel
theorem dX3_judgeRows_11 : decode cX3_judgeRows 11 = .ok (.iload_n 3, 1) := by decide +kernel
theorem dX3_judgeRows_12 : decode cX3_judgeRows 12 = .ok (.aload_n 0, 1) := by decide +kernel
theorem dX3_judgeRows_13 : decode cX3_judgeRows 13 = .ok (.getfield 30, 3) := by decide +kernel
theorem dX3_judgeRows_16 : decode cX3_judgeRows 16 = .ok (.arraylength, 1) := by decide +kernel
theorem dX3_judgeRows_17 : decode cX3_judgeRows 17 = .ok (.if_icmp .ge 48, 3) := by decide +kernel
theorem dX3_judgeRows_20 : decode cX3_judgeRows 20 = .ok (.iload_n 1, 1) := by decide +kernel
theorem dX3_judgeRows_21 : decode cX3_judgeRows 21 = .ok (.iload_n 3, 1) := by decide +kernel
theorem dX3_judgeRows_22 : decode cX3_judgeRows 22 = .ok (.invokestatic 112, 3) := by decide +kernel
theorem dX3_judgeRows_25 : decode cX3_judgeRows 25 = .ok (.ifCond .eq 16, 3) := by decide +kernel
theorem dX3_judgeRows_28 : decode cX3_judgeRows 28 = .ok (.aload_n 0, 1) := by decide +kernel
theorem dX3_judgeRows_29 : decode cX3_judgeRows 29 = .ok (.getfield 27, 3) := by decide +kernel
theorem dX3_judgeRows_32 : decode cX3_judgeRows 32 = .ok (.iload_n 3, 1) := by decide +kernel
theorem dX3_judgeRows_33 : decode cX3_judgeRows 33 = .ok (.dup2, 1) := by decide +kernel
theorem dX3_judgeRows_34 : decode cX3_judgeRows 34 = .ok (.iaload, 1) := by decide +kernel
theorem dX3_judgeRows_35 : decode cX3_judgeRows 35 = .ok (.iconst 1, 1) := by decide +kernel
theorem dX3_judgeRows_36 : decode cX3_judgeRows 36 = .ok (.iadd, 1) := by decide +kernel
theorem dX3_judgeRows_37 : decode cX3_judgeRows 37 = .ok (.iastore, 1) := by decide +kernel
theorem dX3_judgeRows_38 : decode cX3_judgeRows 38 = .ok (.goto 21, 3) := by decide +kernel
theorem dX3_judgeRows_41 : decode cX3_judgeRows 41 = .ok (.iload_n 2, 1) := by decide +kernel
theorem dX3_judgeRows_42 : decode cX3_judgeRows 42 = .ok (.iload_n 3, 1) := by decide +kernel
theorem dX3_judgeRows_43 : decode cX3_judgeRows 43 = .ok (.invokestatic 112, 3) := by decide +kernel
theorem dX3_judgeRows_46 : decode cX3_judgeRows 46 = .ok (.ifCond .eq 13, 3) := by decide +kernel
theorem dX3_judgeRows_49 : decode cX3_judgeRows 49 = .ok (.aload_n 0, 1) := by decide +kernel
theorem dX3_judgeRows_50 : decode cX3_judgeRows 50 = .ok (.getfield 30, 3) := by decide +kernel
theorem dX3_judgeRows_53 : decode cX3_judgeRows 53 = .ok (.iload_n 3, 1) := by decide +kernel
theorem dX3_judgeRows_54 : decode cX3_judgeRows 54 = .ok (.dup2, 1) := by decide +kernel
theorem dX3_judgeRows_55 : decode cX3_judgeRows 55 = .ok (.iaload, 1) := by decide +kernel
theorem dX3_judgeRows_56 : decode cX3_judgeRows 56 = .ok (.iconst 1, 1) := by decide +kernel
theorem dX3_judgeRows_57 : decode cX3_judgeRows 57 = .ok (.iadd, 1) := by decide +kernel
theorem dX3_judgeRows_58 : decode cX3_judgeRows 58 = .ok (.iastore, 1) := by decide +kernel
theorem dX3_judgeRows_59 : decode cX3_judgeRows 59 = .ok (.iinc 3 1, 3) := by decide +kernel
theorem dX3_judgeRows_62 : decode cX3_judgeRows 62 = .ok (.goto (-60), 3) := by decide +kernel
theorem dX3_judgeRows_65 : decode cX3_judgeRows 65 = .ok (.return_, 1) := by decide +kernel
theorem dX3_weightOf_0 : decode cX3_weightOf 0 = .ok (.iconst 1, 1) := by decide +kernel
theorem dX3_weightOf_1 : decode cX3_weightOf 1 = .ok (.iconst 0, 1) := by decide +kernel
theorem dX3_weightOf_2 : decode cX3_weightOf 2 = .ok (.aload_n 0, 1) := by decide +kernel
theorem dX3_weightOf_3 : decode cX3_weightOf 3 = .ok (.getfield 27, 3) := by decide +kernel
theorem dX3_weightOf_6 : decode cX3_weightOf 6 = .ok (.iload_n 1, 1) := by decide +kernel
theorem dX3_weightOf_7 : decode cX3_weightOf 7 = .ok (.invokestatic 36, 3) := by decide +kernel
theorem dX3_weightOf_10 : decode cX3_weightOf 10 = .ok (.aload_n 0, 1) := by decide +kernel
theorem dX3_weightOf_11 : decode cX3_weightOf 11 = .ok (.getfield 30, 3) := by decide +kernel
theorem dX3_weightOf_14 : decode cX3_weightOf 14 = .ok (.iload_n 1, 1) := by decide +kernel
theorem dX3_weightOf_15 : decode cX3_weightOf 15 = .ok (.invokestatic 36, 3) := by decide +kernel
theorem dX3_weightOf_18 : decode cX3_weightOf 18 = .ok (.isub, 1) := by decide +kernel
theorem dX3_weightOf_19 : decode cX3_weightOf 19 = .ok (.invokestatic 158, 3) := by decide +kernel
theorem dX3_weightOf_22 : decode cX3_weightOf 22 = .ok (.iadd, 1) := by decide +kernel
theorem dX3_weightOf_23 : decode cX3_weightOf 23 = .ok (.ireturn, 1) := by decide +kernel
theorem dX4_init_0 : decode cX4_init 0 = .ok (.aload_n 0, 1) := by decide +kernel
theorem dX4_init_1 : decode cX4_init 1 = .ok (.invokespecial 3, 3) := by decide +kernel
theorem dX4_init_4 : decode cX4_init 4 = .ok (.aload_n 0, 1) := by decide +kernel
theorem dX4_init_5 : decode cX4_init 5 = .ok (.bipush 80, 2) := by decide +kernel
theorem dX4_init_7 : decode cX4_init 7 = .ok (.newarray .char, 2) := by decide +kernel
theorem dX4_init_9 : decode cX4_init 9 = .ok (.putfield 9, 3) := by decide +kernel
theorem dX4_init_12 : decode cX4_init 12 = .ok (.aload_n 0, 1) := by decide +kernel
theorem dX4_init_13 : decode cX4_init 13 = .ok (.new 15, 3) := by decide +kernel
theorem dX4_init_16 : decode cX4_init 16 = .ok (.dup, 1) := by decide +kernel
theorem dX4_init_17 : decode cX4_init 17 = .ok (.invokespecial 17, 3) := by decide +kernel
theorem dX4_init_20 : decode cX4_init 20 = .ok (.putfield 18, 3) := by decide +kernel
theorem dX4_init_23 : decode cX4_init 23 = .ok (.return_, 1) := by decide +kernel
theorem dX4_append_0 : decode cX4_append 0 = .ok (.aload_n 0, 1) := by decide +kernel
theorem dX4_append_1 : decode cX4_append 1 = .ok (.getfield 22, 3) := by decide +kernel
theorem dX4_append_4 : decode cX4_append 4 = .ok (.ifCond .lt 15, 3) := by decide +kernel
theorem dX4_append_7 : decode cX4_append 7 = .ok (.aload_n 0, 1) := by decide +kernel
theorem dX4_append_8 : decode cX4_append 8 = .ok (.getfield 22, 3) := by decide +kernel
theorem dX4_append_11 : decode cX4_append 11 = .ok (.aload_n 0, 1) := by decide +kernel
theorem dX4_append_12 : decode cX4_append 12 = .ok (.getfield 9, 3) := by decide +kernel
theorem dX4_append_15 : decode cX4_append 15 = .ok (.arraylength, 1) := by decide +kernel
theorem dX4_append_16 : decode cX4_append 16 = .ok (.if_icmp .lt 5, 3) := by decide +kernel
theorem dX4_append_19 : decode cX4_append 19 = .ok (.iconst 0, 1) := by decide +kernel
theorem dX4_append_20 : decode cX4_append 20 = .ok (.ireturn, 1) := by decide +kernel
theorem dX4_append_21 : decode cX4_append 21 = .ok (.aload_n 0, 1) := by decide +kernel
theorem dX4_append_22 : decode cX4_append 22 = .ok (.getfield 9, 3) := by decide +kernel
theorem dX4_append_25 : decode cX4_append 25 = .ok (.aload_n 0, 1) := by decide +kernel
theorem dX4_append_26 : decode cX4_append 26 = .ok (.getfield 22, 3) := by decide +kernel
theorem dX4_append_29 : decode cX4_append 29 = .ok (.iload_n 1, 1) := by decide +kernel
theorem dX4_append_30 : decode cX4_append 30 = .ok (.castore, 1) := by decide +kernel
theorem dX4_append_31 : decode cX4_append 31 = .ok (.aload_n 0, 1) := by decide +kernel
theorem dX4_append_32 : decode cX4_append 32 = .ok (.dup, 1) := by decide +kernel
theorem dX4_append_33 : decode cX4_append 33 = .ok (.getfield 22, 3) := by decide +kernel
theorem dX4_append_36 : decode cX4_append 36 = .ok (.iconst 1, 1) := by decide +kernel
theorem dX4_append_37 : decode cX4_append 37 = .ok (.iadd, 1) := by decide +kernel
theorem dX4_append_38 : decode cX4_append 38 = .ok (.putfield 22, 3) := by decide +kernel
theorem dX4_append_41 : decode cX4_append 41 = .ok (.iconst 1, 1) := by decide +kernel
theorem dX4_append_42 : decode cX4_append 42 = .ok (.ireturn, 1) := by decide +kernel
theorem dX4_signAt_0 : decode cX4_signAt 0 = .ok (.iload_n 1, 1) := by decide +kernel
theorem dX4_signAt_1 : decode cX4_signAt 1 = .ok (.ifCond .lt 29, 3) := by decide +kernel
theorem dX4_signAt_4 : decode cX4_signAt 4 = .ok (.iload_n 1, 1) := by decide +kernel
theorem dX4_signAt_5 : decode cX4_signAt 5 = .ok (.aload_n 0, 1) := by decide +kernel
theorem dX4_signAt_6 : decode cX4_signAt 6 = .ok (.getfield 22, 3) := by decide +kernel
theorem dX4_signAt_9 : decode cX4_signAt 9 = .ok (.if_icmp .ge 21, 3) := by decide +kernel
theorem dX4_signAt_12 : decode cX4_signAt 12 = .ok (.iload_n 1, 1) := by decide +kernel
theorem dX4_signAt_13 : decode cX4_signAt 13 = .ok (.aload_n 0, 1) := by decide +kernel
theorem dX4_signAt_14 : decode cX4_signAt 14 = .ok (.getfield 9, 3) := by decide +kernel
theorem dX4_signAt_17 : decode cX4_signAt 17 = .ok (.arraylength, 1) := by decide +kernel
theorem dX4_signAt_18 : decode cX4_signAt 18 = .ok (.if_icmp .ge 12, 3) := by decide +kernel
theorem dX4_signAt_21 : decode cX4_signAt 21 = .ok (.aload_n 0, 1) := by decide +kernel
theorem dX4_signAt_22 : decode cX4_signAt 22 = .ok (.getfield 9, 3) := by decide +kernel
theorem dX4_signAt_25 : decode cX4_signAt 25 = .ok (.iload_n 1, 1) := by decide +kernel
theorem dX4_signAt_26 : decode cX4_signAt 26 = .ok (.caload, 1) := by decide +kernel
theorem dX4_signAt_27 : decode cX4_signAt 27 = .ok (.goto 4, 3) := by decide +kernel
theorem dX4_signAt_30 : decode cX4_signAt 30 = .ok (.iconst 0, 1) := by decide +kernel
theorem dX4_signAt_31 : decode cX4_signAt 31 = .ok (.ireturn, 1) := by decide +kernel
theorem dX4_examine_0 : decode cX4_examine 0 = .ok (.aload_n 0, 1) := by decide +kernel
theorem dX4_examine_1 : decode cX4_examine 1 = .ok (.aload_n 1, 1) := by decide +kernel
theorem dX4_examine_2 : decode cX4_examine 2 = .ok (.getfield 26, 3) := by decide +kernel
theorem dX4_examine_5 : decode cX4_examine 5 = .ok (.putfield 31, 3) := by decide +kernel
theorem dX4_examine_8 : decode cX4_examine 8 = .ok (.aload_n 0, 1) := by decide +kernel
theorem dX4_examine_9 : decode cX4_examine 9 = .ok (.aload_n 1, 1) := by decide +kernel
theorem dX4_examine_10 : decode cX4_examine 10 = .ok (.getfield 34, 3) := by decide +kernel
theorem dX4_examine_13 : decode cX4_examine 13 = .ok (.putfield 37, 3) := by decide +kernel
theorem dX4_examine_16 : decode cX4_examine 16 = .ok (.aload_n 0, 1) := by decide +kernel
theorem dX4_examine_17 : decode cX4_examine 17 = .ok (.aload_n 1, 1) := by decide +kernel
theorem dX4_examine_18 : decode cX4_examine 18 = .ok (.getfield 40, 3) := by decide +kernel
theorem dX4_examine_21 : decode cX4_examine 21 = .ok (.putfield 43, 3) := by decide +kernel
theorem dX4_examine_24 : decode cX4_examine 24 = .ok (.aload_n 0, 1) := by decide +kernel
theorem dX4_examine_25 : decode cX4_examine 25 = .ok (.iconst 0, 1) := by decide +kernel
theorem dX4_examine_26 : decode cX4_examine 26 = .ok (.putfield 46, 3) := by decide +kernel
theorem dX4_examine_29 : decode cX4_examine 29 = .ok (.aload_n 0, 1) := by decide +kernel
theorem dX4_examine_30 : decode cX4_examine 30 = .ok (.iconst 0, 1) := by decide +kernel
theorem dX4_examine_31 : decode cX4_examine 31 = .ok (.putfield 49, 3) := by decide +kernel
theorem dX4_examine_34 : decode cX4_examine 34 = .ok (.aload_n 0, 1) := by decide +kernel
theorem dX4_examine_35 : decode cX4_examine 35 = .ok (.iconst 0, 1) := by decide +kernel
theorem dX4_examine_36 : decode cX4_examine 36 = .ok (.putfield 52, 3) := by decide +kernel
theorem dX4_examine_39 : decode cX4_examine 39 = .ok (.iconst 0, 1) := by decide +kernel
theorem dX4_examine_40 : decode cX4_examine 40 = .ok (.istore_n 2, 1) := by decide +kernel
theorem dX4_examine_41 : decode cX4_examine 41 = .ok (.iload_n 2, 1) := by decide +kernel
theorem dX4_examine_42 : decode cX4_examine 42 = .ok (.bipush 80, 2) := by decide +kernel
theorem dX4_examine_44 : decode cX4_examine 44 = .ok (.if_icmp .ge 71, 3) := by decide +kernel
theorem dX4_examine_47 : decode cX4_examine 47 = .ok (.aload_n 0, 1) := by decide +kernel
theorem dX4_examine_48 : decode cX4_examine 48 = .ok (.getfield 49, 3) := by decide +kernel
theorem dX4_examine_51 : decode cX4_examine 51 = .ok (.aload_n 0, 1) := by decide +kernel
theorem dX4_examine_52 : decode cX4_examine 52 = .ok (.getfield 22, 3) := by decide +kernel
theorem dX4_examine_55 : decode cX4_examine 55 = .ok (.if_icmp .ge 60, 3) := by decide +kernel
theorem dX4_examine_58 : decode cX4_examine 58 = .ok (.aload_n 0, 1) := by decide +kernel
theorem dX4_examine_59 : decode cX4_examine 59 = .ok (.getfield 52, 3) := by decide +kernel
theorem dX4_examine_62 : decode cX4_examine 62 = .ok (.ifCond .ne 53, 3) := by decide +kernel
theorem dX4_examine_65 : decode cX4_examine 65 = .ok (.aload_n 0, 1) := by decide +kernel
theorem dX4_examine_66 : decode cX4_examine 66 = .ok (.getfield 18, 3) := by decide +kernel
theorem dX4_examine_69 : decode cX4_examine 69 = .ok (.aload_n 0, 1) := by decide +kernel
theorem dX4_examine_70 : decode cX4_examine 70 = .ok (.aload_n 0, 1) := by decide +kernel
theorem dX4_examine_71 : decode cX4_examine 71 = .ok (.getfield 49, 3) := by decide +kernel
theorem dX4_examine_74 : decode cX4_examine 74 = .ok (.invokevirtual 55, 3) := by decide +kernel
theorem dX4_examine_77 : decode cX4_examine 77 = .ok (.aload_n 0, 1) := by decide +kernel
theorem dX4_examine_78 : decode cX4_examine 78 = .ok (.invokevirtual 59, 3) := by decide +kernel
theorem dX4_examine_81 : decode cX4_examine 81 = .ok (.aload_n 0, 1) := by decide +kernel
theorem dX4_examine_82 : decode cX4_examine 82 = .ok (.getfield 52, 3) := by decide +kernel
theorem dX4_examine_85 : decode cX4_examine 85 = .ok (.ifCond .ne 24, 3) := by decide +kernel
theorem dX4_examine_88 : decode cX4_examine 88 = .ok (.aload_n 0, 1) := by decide +kernel
theorem dX4_examine_89 : decode cX4_examine 89 = .ok (.aload_n 0, 1) := by decide +kernel
theorem dX4_examine_90 : decode cX4_examine 90 = .ok (.getfield 18, 3) := by decide +kernel
theorem dX4_examine_93 : decode cX4_examine 93 = .ok (.getfield 62, 3) := by decide +kernel
theorem dX4_examine_96 : decode cX4_examine 96 = .ok (.putfield 49, 3) := by decide +kernel
theorem dX4_examine_99 : decode cX4_examine 99 = .ok (.aload_n 0, 1) := by decide +kernel
theorem dX4_examine_100 : decode cX4_examine 100 = .ok (.dup, 1) := by decide +kernel
theorem dX4_examine_101 : decode cX4_examine 101 = .ok (.getfield 46, 3) := by decide +kernel
theorem dX4_examine_104 : decode cX4_examine 104 = .ok (.iconst 1, 1) := by decide +kernel
theorem dX4_examine_105 : decode cX4_examine 105 = .ok (.iadd, 1) := by decide +kernel
theorem dX4_examine_106 : decode cX4_examine 106 = .ok (.putfield 46, 3) := by decide +kernel
theorem dX4_examine_109 : decode cX4_examine 109 = .ok (.iinc 2 1, 3) := by decide +kernel
theorem dX4_examine_112 : decode cX4_examine 112 = .ok (.goto (-71), 3) := by decide +kernel
theorem dX4_examine_115 : decode cX4_examine 115 = .ok (.return_, 1) := by decide +kernel
theorem dX4_examineOrder_0 : decode cX4_examineOrder 0 = .ok (.aload_n 0, 1) := by decide +kernel
theorem dX4_examineOrder_1 : decode cX4_examineOrder 1 = .ok (.getfield 18, 3) := by decide +kernel
theorem dX4_examineOrder_4 : decode cX4_examineOrder 4 = .ok (.getfield 65, 3) := by decide +kernel
theorem dX4_examineOrder_7 : decode cX4_examineOrder 7 = .ok (.ifCond .eq 27, 3) := by decide +kernel
theorem dX4_examineOrder_10 : decode cX4_examineOrder 10 = .ok (.aload_n 0, 1) := by decide +kernel
theorem dX4_examineOrder_11 : decode cX4_examineOrder 11 = .ok (.iconst 1, 1) := by decide +kernel
theorem dX4_examineOrder_12 : decode cX4_examineOrder 12 = .ok (.putfield 52, 3) := by decide +kernel
theorem dX4_examineOrder_15 : decode cX4_examineOrder 15 = .ok (.aload_n 0, 1) := by decide +kernel
theorem dX4_examineOrder_16 : decode cX4_examineOrder 16 = .ok (.aload_n 0, 1) := by decide +kernel
theorem dX4_examineOrder_17 : decode cX4_examineOrder 17 = .ok (.getfield 18, 3) := by decide +kernel
theorem dX4_examineOrder_20 : decode cX4_examineOrder 20 = .ok (.getfield 62, 3) := by decide +kernel
theorem dX4_examineOrder_23 : decode cX4_examineOrder 23 = .ok (.aload_n 0, 1) := by decide +kernel
theorem dX4_examineOrder_24 : decode cX4_examineOrder 24 = .ok (.getfield 49, 3) := by decide +kernel
theorem dX4_examineOrder_27 : decode cX4_examineOrder 27 = .ok (.isub, 1) := by decide +kernel
theorem dX4_examineOrder_28 : decode cX4_examineOrder 28 = .ok (.putfield 69, 3) := by decide +kernel
theorem dX4_examineOrder_31 : decode cX4_examineOrder 31 = .ok (.goto 44, 3) := by decide +kernel
theorem dX4_examineOrder_34 : decode cX4_examineOrder 34 = .ok (.aload_n 0, 1) := by decide +kernel
theorem dX4_examineOrder_35 : decode cX4_examineOrder 35 = .ok (.getfield 18, 3) := by decide +kernel
theorem dX4_examineOrder_38 : decode cX4_examineOrder 38 = .ok (.invokevirtual 72, 3) := by decide +kernel
theorem dX4_examineOrder_41 : decode cX4_examineOrder 41 = .ok (.ifCond .lt 22, 3) := by decide +kernel
theorem dX4_examineOrder_44 : decode cX4_examineOrder 44 = .ok (.aload_n 0, 1) := by decide +kernel
theorem dX4_examineOrder_45 : decode cX4_examineOrder 45 = .ok (.iconst 2, 1) := by decide +kernel
theorem dX4_examineOrder_46 : decode cX4_examineOrder 46 = .ok (.putfield 52, 3) := by decide +kernel
theorem dX4_examineOrder_49 : decode cX4_examineOrder 49 = .ok (.aload_n 0, 1) := by decide +kernel
theorem dX4_examineOrder_50 : decode cX4_examineOrder 50 = .ok (.aload_n 0, 1) := by decide +kernel
theorem dX4_examineOrder_51 : decode cX4_examineOrder 51 = .ok (.getfield 18, 3) := by decide +kernel
theorem dX4_examineOrder_54 : decode cX4_examineOrder 54 = .ok (.invokevirtual 72, 3) := by decide +kernel
theorem dX4_examineOrder_57 : decode cX4_examineOrder 57 = .ok (.putfield 69, 3) := by decide +kernel
theorem dX4_examineOrder_60 : decode cX4_examineOrder 60 = .ok (.goto 15, 3) := by decide +kernel
theorem dX4_examineOrder_63 : decode cX4_examineOrder 63 = .ok (.aload_n 0, 1) := by decide +kernel
theorem dX4_examineOrder_64 : decode cX4_examineOrder 64 = .ok (.invokevirtual 76, 3) := by decide +kernel
theorem dX4_examineOrder_67 : decode cX4_examineOrder 67 = .ok (.ifCond .ne 8, 3) := by decide +kernel
theorem dX4_examineOrder_70 : decode cX4_examineOrder 70 = .ok (.aload_n 0, 1) := by decide +kernel
theorem dX4_examineOrder_71 : decode cX4_examineOrder 71 = .ok (.iconst 3, 1) := by decide +kernel
theorem dX4_examineOrder_72 : decode cX4_examineOrder 72 = .ok (.putfield 52, 3) := by decide +kernel
theorem dX4_examineOrder_75 : decode cX4_examineOrder 75 = .ok (.return_, 1) := by decide +kernel
theorem dX4_isPossibleThen_0 : decode cX4_isPossibleThen 0 = .ok (.aload_n 0, 1) := by decide +kernel
theorem dX4_isPossibleThen_1 : decode cX4_isPossibleThen 1 = .ok (.getfield 18, 3) := by decide +kernel
theorem dX4_isPossibleThen_4 : decode cX4_isPossibleThen 4 = .ok (.iconst 0, 1) := by decide +kernel
theorem dX4_isPossibleThen_5 : decode cX4_isPossibleThen 5 = .ok (.invokevirtual 80, 3) := by decide +kernel
theorem dX4_isPossibleThen_8 : decode cX4_isPossibleThen 8 = .ok (.istore_n 1, 1) := by decide +kernel
theorem dX4_isPossibleThen_9 : decode cX4_isPossibleThen 9 = .ok (.aload_n 0, 1) := by decide +kernel
theorem dX4_isPossibleThen_10 : decode cX4_isPossibleThen 10 = .ok (.getfield 43, 3) := by decide +kernel
theorem dX4_isPossibleThen_13 : decode cX4_isPossibleThen 13 = .ok (.iload_n 1, 1) := by decide +kernel
theorem dX4_isPossibleThen_14 : decode cX4_isPossibleThen 14 = .ok (.invokestatic 84, 3) := by decide +kernel
theorem dX4_isPossibleThen_17 : decode cX4_isPossibleThen 17 = .ok (.istore_n 2, 1) := by decide +kernel
theorem dX4_isPossibleThen_18 : decode cX4_isPossibleThen 18 = .ok (.aload_n 0, 1) := by decide +kernel
theorem dX4_isPossibleThen_19 : decode cX4_isPossibleThen 19 = .ok (.getfield 18, 3) := by decide +kernel
theorem dX4_isPossibleThen_22 : decode cX4_isPossibleThen 22 = .ok (.getfield 88, 3) := by decide +kernel
theorem dX4_isPossibleThen_25 : decode cX4_isPossibleThen 25 = .ok (.bipush 116, 2) := by decide +kernel
theorem dX4_isPossibleThen_27 : decode cX4_isPossibleThen 27 = .ok (.if_icmp .ne 27, 3) := by decide +kernel
theorem dX4_isPossibleThen_30 : decode cX4_isPossibleThen 30 = .ok (.aload_n 0, 1) := by decide +kernel
theorem dX4_isPossibleThen_31 : decode cX4_isPossibleThen 31 = .ok (.dup, 1) := by decide +kernel
theorem dX4_isPossibleThen_32 : decode cX4_isPossibleThen 32 = .ok (.getfield 31, 3) := by decide +kernel
theorem dX4_isPossibleThen_35 : decode cX4_isPossibleThen 35 = .ok (.iconst 1, 1) := by decide +kernel
theorem dX4_isPossibleThen_36 : decode cX4_isPossibleThen 36 = .ok (.iadd, 1) := by decide +kernel
theorem dX4_isPossibleThen_37 : decode cX4_isPossibleThen 37 = .ok (.putfield 31, 3) := by decide +kernel
theorem dX4_isPossibleThen_40 : decode cX4_isPossibleThen 40 = .ok (.aload_n 0, 1) := by decide +kernel
theorem dX4_isPossibleThen_41 : decode cX4_isPossibleThen 41 = .ok (.getfield 31, 3) := by decide +kernel
theorem dX4_isPossibleThen_44 : decode cX4_isPossibleThen 44 = .ok (.iconst 4, 1) := by decide +kernel
theorem dX4_isPossibleThen_45 : decode cX4_isPossibleThen 45 = .ok (.if_icmp .gt 7, 3) := by decide +kernel
theorem dX4_isPossibleThen_48 : decode cX4_isPossibleThen 48 = .ok (.iconst 1, 1) := by decide +kernel
theorem dX4_isPossibleThen_49 : decode cX4_isPossibleThen 49 = .ok (.goto 4, 3) := by decide +kernel
theorem dX4_isPossibleThen_52 : decode cX4_isPossibleThen 52 = .ok (.iconst 0, 1) := by decide +kernel
theorem dX4_isPossibleThen_53 : decode cX4_isPossibleThen 53 = .ok (.ireturn, 1) := by decide +kernel
theorem dX4_isPossibleThen_54 : decode cX4_isPossibleThen 54 = .ok (.aload_n 0, 1) := by decide +kernel
theorem dX4_isPossibleThen_55 : decode cX4_isPossibleThen 55 = .ok (.getfield 18, 3) := by decide +kernel
theorem dX4_isPossibleThen_58 : decode cX4_isPossibleThen 58 = .ok (.getfield 88, 3) := by decide +kernel
theorem dX4_isPossibleThen_61 : decode cX4_isPossibleThen 61 = .ok (.bipush 103, 2) := by decide +kernel
theorem dX4_isPossibleThen_63 : decode cX4_isPossibleThen 63 = .ok (.if_icmp .ne 29, 3) := by decide +kernel
theorem dX4_isPossibleThen_66 : decode cX4_isPossibleThen 66 = .ok (.aload_n 0, 1) := by decide +kernel
theorem dX4_isPossibleThen_67 : decode cX4_isPossibleThen 67 = .ok (.dup, 1) := by decide +kernel
theorem dX4_isPossibleThen_68 : decode cX4_isPossibleThen 68 = .ok (.getfield 37, 3) := by decide +kernel
theorem dX4_isPossibleThen_71 : decode cX4_isPossibleThen 71 = .ok (.iload_n 1, 1) := by decide +kernel
theorem dX4_isPossibleThen_72 : decode cX4_isPossibleThen 72 = .ok (.iadd, 1) := by decide +kernel
theorem dX4_isPossibleThen_73 : decode cX4_isPossibleThen 73 = .ok (.putfield 37, 3) := by decide +kernel
theorem dX4_isPossibleThen_76 : decode cX4_isPossibleThen 76 = .ok (.aload_n 0, 1) := by decide +kernel
theorem dX4_isPossibleThen_77 : decode cX4_isPossibleThen 77 = .ok (.getfield 37, 3) := by decide +kernel
theorem dX4_isPossibleThen_80 : decode cX4_isPossibleThen 80 = .ok (.sipush 20000, 3) := by decide +kernel
theorem dX4_isPossibleThen_83 : decode cX4_isPossibleThen 83 = .ok (.if_icmp .gt 7, 3) := by decide +kernel
theorem dX4_isPossibleThen_86 : decode cX4_isPossibleThen 86 = .ok (.iconst 1, 1) := by decide +kernel
theorem dX4_isPossibleThen_87 : decode cX4_isPossibleThen 87 = .ok (.goto 4, 3) := by decide +kernel
theorem dX4_isPossibleThen_90 : decode cX4_isPossibleThen 90 = .ok (.iconst 0, 1) := by decide +kernel
theorem dX4_isPossibleThen_91 : decode cX4_isPossibleThen 91 = .ok (.ireturn, 1) := by decide +kernel
theorem dX4_isPossibleThen_92 : decode cX4_isPossibleThen 92 = .ok (.aload_n 0, 1) := by decide +kernel
theorem dX4_isPossibleThen_93 : decode cX4_isPossibleThen 93 = .ok (.getfield 18, 3) := by decide +kernel
theorem dX4_isPossibleThen_96 : decode cX4_isPossibleThen 96 = .ok (.getfield 88, 3) := by decide +kernel
theorem dX4_isPossibleThen_99 : decode cX4_isPossibleThen 99 = .ok (.bipush 98, 2) := by decide +kernel
theorem dX4_isPossibleThen_101 : decode cX4_isPossibleThen 101 = .ok (.if_icmp .ne 25, 3) := by decide +kernel
theorem dX4_isPossibleThen_104 : decode cX4_isPossibleThen 104 = .ok (.aload_n 0, 1) := by decide +kernel
theorem dX4_isPossibleThen_105 : decode cX4_isPossibleThen 105 = .ok (.dup, 1) := by decide +kernel
theorem dX4_isPossibleThen_106 : decode cX4_isPossibleThen 106 = .ok (.getfield 43, 3) := by decide +kernel
theorem dX4_isPossibleThen_109 : decode cX4_isPossibleThen 109 = .ok (.iconst 1, 1) := by decide +kernel
theorem dX4_isPossibleThen_110 : decode cX4_isPossibleThen 110 = .ok (.iload_n 1, 1) := by decide +kernel
theorem dX4_isPossibleThen_111 : decode cX4_isPossibleThen 111 = .ok (.ishl, 1) := by decide +kernel
theorem dX4_isPossibleThen_112 : decode cX4_isPossibleThen 112 = .ok (.ior, 1) := by decide +kernel
theorem dX4_isPossibleThen_113 : decode cX4_isPossibleThen 113 = .ok (.putfield 43, 3) := by decide +kernel
theorem dX4_isPossibleThen_116 : decode cX4_isPossibleThen 116 = .ok (.iload_n 2, 1) := by decide +kernel
theorem dX4_isPossibleThen_117 : decode cX4_isPossibleThen 117 = .ok (.ifCond .ne 7, 3) := by decide +kernel
theorem dX4_isPossibleThen_120 : decode cX4_isPossibleThen 120 = .ok (.iconst 1, 1) := by decide +kernel
theorem dX4_isPossibleThen_121 : decode cX4_isPossibleThen 121 = .ok (.goto 4, 3) := by decide +kernel
theorem dX4_isPossibleThen_124 : decode cX4_isPossibleThen 124 = .ok (.iconst 0, 1) := by decide +kernel
theorem dX4_isPossibleThen_125 : decode cX4_isPossibleThen 125 = .ok (.ireturn, 1) := by decide +kernel
theorem dX4_isPossibleThen_126 : decode cX4_isPossibleThen 126 = .ok (.aload_n 0, 1) := by decide +kernel
theorem dX4_isPossibleThen_127 : decode cX4_isPossibleThen 127 = .ok (.getfield 18, 3) := by decide +kernel
theorem dX4_isPossibleThen_130 : decode cX4_isPossibleThen 130 = .ok (.getfield 88, 3) := by decide +kernel
theorem dX4_isPossibleThen_133 : decode cX4_isPossibleThen 133 = .ok (.bipush 117, 2) := by decide +kernel
theorem dX4_isPossibleThen_135 : decode cX4_isPossibleThen 135 = .ok (.if_icmp .ne 19, 3) := by decide +kernel
theorem dX4_isPossibleThen_138 : decode cX4_isPossibleThen 138 = .ok (.aload_n 0, 1) := by decide +kernel
theorem dX4_isPossibleThen_139 : decode cX4_isPossibleThen 139 = .ok (.dup, 1) := by decide +kernel
theorem dX4_isPossibleThen_140 : decode cX4_isPossibleThen 140 = .ok (.getfield 43, 3) := by decide +kernel
theorem dX4_isPossibleThen_143 : decode cX4_isPossibleThen 143 = .ok (.iconst 1, 1) := by decide +kernel
theorem dX4_isPossibleThen_144 : decode cX4_isPossibleThen 144 = .ok (.iload_n 1, 1) := by decide +kernel
theorem dX4_isPossibleThen_145 : decode cX4_isPossibleThen 145 = .ok (.ishl, 1) := by decide +kernel
theorem dX4_isPossibleThen_146 : decode cX4_isPossibleThen 146 = .ok (.iconst (-1), 1) := by decide +kernel
theorem dX4_isPossibleThen_147 : decode cX4_isPossibleThen 147 = .ok (.ixor, 1) := by decide +kernel
theorem dX4_isPossibleThen_148 : decode cX4_isPossibleThen 148 = .ok (.iand, 1) := by decide +kernel
theorem dX4_isPossibleThen_149 : decode cX4_isPossibleThen 149 = .ok (.putfield 43, 3) := by decide +kernel
theorem dX4_isPossibleThen_152 : decode cX4_isPossibleThen 152 = .ok (.iload_n 2, 1) := by decide +kernel
theorem dX4_isPossibleThen_153 : decode cX4_isPossibleThen 153 = .ok (.ireturn, 1) := by decide +kernel
theorem dX4_isPossibleThen_154 : decode cX4_isPossibleThen 154 = .ok (.iconst 1, 1) := by decide +kernel
theorem dX4_isPossibleThen_155 : decode cX4_isPossibleThen 155 = .ok (.ireturn, 1) := by decide +kernel
theorem dX5_init_0 : decode cX5_init 0 = .ok (.aload_n 0, 1) := by decide +kernel
theorem dX5_init_1 : decode cX5_init 1 = .ok (.invokespecial 1, 3) := by decide +kernel
theorem dX5_init_4 : decode cX5_init 4 = .ok (.return_, 1) := by decide +kernel
theorem dX5_become_0 : decode cX5_become 0 = .ok (.aload_n 0, 1) := by decide +kernel
theorem dX5_become_1 : decode cX5_become 1 = .ok (.aload_n 1, 1) := by decide +kernel
theorem dX5_become_2 : decode cX5_become 2 = .ok (.getfield 7, 3) := by decide +kernel
theorem dX5_become_5 : decode cX5_become 5 = .ok (.putfield 7, 3) := by decide +kernel
theorem dX5_become_8 : decode cX5_become 8 = .ok (.aload_n 0, 1) := by decide +kernel
theorem dX5_become_9 : decode cX5_become 9 = .ok (.aload_n 1, 1) := by decide +kernel
theorem dX5_become_10 : decode cX5_become 10 = .ok (.getfield 13, 3) := by decide +kernel
theorem dX5_become_13 : decode cX5_become 13 = .ok (.putfield 13, 3) := by decide +kernel
theorem dX5_become_16 : decode cX5_become 16 = .ok (.aload_n 0, 1) := by decide +kernel
theorem dX5_become_17 : decode cX5_become 17 = .ok (.aload_n 1, 1) := by decide +kernel
theorem dX5_become_18 : decode cX5_become 18 = .ok (.getfield 16, 3) := by decide +kernel
theorem dX5_become_21 : decode cX5_become 21 = .ok (.putfield 16, 3) := by decide +kernel
theorem dX5_become_24 : decode cX5_become 24 = .ok (.aload_n 0, 1) := by decide +kernel
theorem dX5_become_25 : decode cX5_become 25 = .ok (.aload_n 1, 1) := by decide +kernel
theorem dX5_become_26 : decode cX5_become 26 = .ok (.getfield 19, 3) := by decide +kernel
theorem dX5_become_29 : decode cX5_become 29 = .ok (.putfield 19, 3) := by decide +kernel
theorem dX5_become_32 : decode cX5_become 32 = .ok (.aload_n 0, 1) := by decide +kernel
theorem dX5_become_33 : decode cX5_become 33 = .ok (.aload_n 1, 1) := by decide +kernel
theorem dX5_become_34 : decode cX5_become 34 = .ok (.getfield 22, 3) := by decide +kernel
theorem dX5_become_37 : decode cX5_become 37 = .ok (.putfield 22, 3) := by decide +kernel
theorem dX5_become_40 : decode cX5_become 40 = .ok (.aload_n 0, 1) := by decide +kernel
theorem dX5_become_41 : decode cX5_become 41 = .ok (.aload_n 1, 1) := by decide +kernel
theorem dX5_become_42 : decode cX5_become 42 = .ok (.getfield 25, 3) := by decide +kernel
theorem dX5_become_45 : decode cX5_become 45 = .ok (.putfield 25, 3) := by decide +kernel
theorem dX5_become_48 : decode cX5_become 48 = .ok (.return_, 1) := by decide +kernel
theorem dX5_numberOf_0 : decode cX5_numberOf 0 = .ok (.iload_n 1, 1) := by decide +kernel
theorem dX5_numberOf_1 : decode cX5_numberOf 1 = .ok (.tableswitch 60 0 4 #[35, 40, 45, 50, 55], 35) := by decide +kernel
theorem dX5_numberOf_36 : decode cX5_numberOf 36 = .ok (.aload_n 0, 1) := by decide +kernel
theorem dX5_numberOf_37 : decode cX5_numberOf 37 = .ok (.getfield 7, 3) := by decide +kernel
theorem dX5_numberOf_40 : decode cX5_numberOf 40 = .ok (.ireturn, 1) := by decide +kernel
theorem dX5_numberOf_41 : decode cX5_numberOf 41 = .ok (.aload_n 0, 1) := by decide +kernel
theorem dX5_numberOf_42 : decode cX5_numberOf 42 = .ok (.getfield 13, 3) := by decide +kernel
theorem dX5_numberOf_45 : decode cX5_numberOf 45 = .ok (.ireturn, 1) := by decide +kernel
theorem dX5_numberOf_46 : decode cX5_numberOf 46 = .ok (.aload_n 0, 1) := by decide +kernel
theorem dX5_numberOf_47 : decode cX5_numberOf 47 = .ok (.getfield 16, 3) := by decide +kernel
theorem dX5_numberOf_50 : decode cX5_numberOf 50 = .ok (.ireturn, 1) := by decide +kernel
theorem dX5_numberOf_51 : decode cX5_numberOf 51 = .ok (.aload_n 0, 1) := by decide +kernel
theorem dX5_numberOf_52 : decode cX5_numberOf 52 = .ok (.getfield 19, 3) := by decide +kernel
theorem dX5_numberOf_55 : decode cX5_numberOf 55 = .ok (.ireturn, 1) := by decide +kernel
theorem dX5_numberOf_56 : decode cX5_numberOf 56 = .ok (.aload_n 0, 1) := by decide +kernel
theorem dX5_numberOf_57 : decode cX5_numberOf 57 = .ok (.getfield 22, 3) := by decide +kernel
theorem dX5_numberOf_60 : decode cX5_numberOf 60 = .ok (.ireturn, 1) := by decide +kernel
theorem dX5_numberOf_61 : decode cX5_numberOf 61 = .ok (.aload_n 0, 1) := by decide +kernel
theorem dX5_numberOf_62 : decode cX5_numberOf 62 = .ok (.getfield 25, 3) := by decide +kernel
theorem dX5_numberOf_65 : decode cX5_numberOf 65 = .ok (.ireturn, 1) := by decide +kernel
theorem dX5_isIn_0 : decode cX5_isIn 0 = .ok (.iload_n 1, 1) := by decide +kernel
theorem dX5_isIn_1 : decode cX5_isIn 1 = .ok (.aload_n 0, 1) := by decide +kernel
theorem dX5_isIn_2 : decode cX5_isIn 2 = .ok (.getfield 7, 3) := by decide +kernel
theorem dX5_isIn_5 : decode cX5_isIn 5 = .ok (.if_icmp .lt 15, 3) := by decide +kernel
theorem dX5_isIn_8 : decode cX5_isIn 8 = .ok (.iload_n 1, 1) := by decide +kernel
theorem dX5_isIn_9 : decode cX5_isIn 9 = .ok (.aload_n 0, 1) := by decide +kernel
theorem dX5_isIn_10 : decode cX5_isIn 10 = .ok (.getfield 13, 3) := by decide +kernel
theorem dX5_isIn_13 : decode cX5_isIn 13 = .ok (.if_icmp .gt 7, 3) := by decide +kernel
theorem dX5_isIn_16 : decode cX5_isIn 16 = .ok (.iconst 1, 1) := by decide +kernel
theorem dX5_isIn_17 : decode cX5_isIn 17 = .ok (.goto 4, 3) := by decide +kernel
theorem dX5_isIn_20 : decode cX5_isIn 20 = .ok (.iconst 0, 1) := by decide +kernel
theorem dX5_isIn_21 : decode cX5_isIn 21 = .ok (.ireturn, 1) := by decide +kernel
theorem dX5_positionAt_0 : decode cX5_positionAt 0 = .ok (.aload_n 0, 1) := by decide +kernel
theorem dX5_positionAt_1 : decode cX5_positionAt 1 = .ok (.getfield 16, 3) := by decide +kernel
theorem dX5_positionAt_4 : decode cX5_positionAt 4 = .ok (.aload_n 0, 1) := by decide +kernel
theorem dX5_positionAt_5 : decode cX5_positionAt 5 = .ok (.getfield 19, 3) := by decide +kernel
theorem dX5_positionAt_8 : decode cX5_positionAt 8 = .ok (.iload_n 1, 1) := by decide +kernel
theorem dX5_positionAt_9 : decode cX5_positionAt 9 = .ok (.imul, 1) := by decide +kernel
theorem dX5_positionAt_10 : decode cX5_positionAt 10 = .ok (.iadd, 1) := by decide +kernel
theorem dX5_positionAt_11 : decode cX5_positionAt 11 = .ok (.ireturn, 1) := by decide +kernel
theorem dX5_changeSpeed_0 : decode cX5_changeSpeed 0 = .ok (.aload_n 0, 1) := by decide +kernel
theorem dX5_changeSpeed_1 : decode cX5_changeSpeed 1 = .ok (.aload_n 0, 1) := by decide +kernel
theorem dX5_changeSpeed_2 : decode cX5_changeSpeed 2 = .ok (.iload_n 2, 1) := by decide +kernel
theorem dX5_changeSpeed_3 : decode cX5_changeSpeed 3 = .ok (.invokevirtual 28, 3) := by decide +kernel
theorem dX5_changeSpeed_6 : decode cX5_changeSpeed 6 = .ok (.iload_n 1, 1) := by decide +kernel
theorem dX5_changeSpeed_7 : decode cX5_changeSpeed 7 = .ok (.iload_n 2, 1) := by decide +kernel
theorem dX5_changeSpeed_8 : decode cX5_changeSpeed 8 = .ok (.imul, 1) := by decide +kernel
theorem dX5_changeSpeed_9 : decode cX5_changeSpeed 9 = .ok (.isub, 1) := by decide +kernel
theorem dX5_changeSpeed_10 : decode cX5_changeSpeed 10 = .ok (.putfield 16, 3) := by decide +kernel
theorem dX5_changeSpeed_13 : decode cX5_changeSpeed 13 = .ok (.aload_n 0, 1) := by decide +kernel
theorem dX5_changeSpeed_14 : decode cX5_changeSpeed 14 = .ok (.iload_n 1, 1) := by decide +kernel
theorem dX5_changeSpeed_15 : decode cX5_changeSpeed 15 = .ok (.putfield 19, 3) := by decide +kernel
theorem dX5_changeSpeed_18 : decode cX5_changeSpeed 18 = .ok (.return_, 1) := by decide +kernel
theorem dX6_init_0 : decode cX6_init 0 = .ok (.aload_n 0, 1) := by decide +kernel
theorem dX6_init_1 : decode cX6_init 1 = .ok (.invokespecial 3, 3) := by decide +kernel
theorem dX6_init_4 : decode cX6_init 4 = .ok (.aload_n 0, 1) := by decide +kernel
theorem dX6_init_5 : decode cX6_init 5 = .ok (.bipush 10, 2) := by decide +kernel
theorem dX6_init_7 : decode cX6_init 7 = .ok (.newarray .int, 2) := by decide +kernel
theorem dX6_init_9 : decode cX6_init 9 = .ok (.putfield 9, 3) := by decide +kernel
theorem dX6_init_12 : decode cX6_init 12 = .ok (.aload_n 0, 1) := by decide +kernel
theorem dX6_init_13 : decode cX6_init 13 = .ok (.bipush 10, 2) := by decide +kernel
theorem dX6_init_15 : decode cX6_init 15 = .ok (.newarray .int, 2) := by decide +kernel
theorem dX6_init_17 : decode cX6_init 17 = .ok (.putfield 15, 3) := by decide +kernel
theorem dX6_init_20 : decode cX6_init 20 = .ok (.aload_n 0, 1) := by decide +kernel
theorem dX6_init_21 : decode cX6_init 21 = .ok (.bipush 10, 2) := by decide +kernel
theorem dX6_init_23 : decode cX6_init 23 = .ok (.newarray .int, 2) := by decide +kernel
theorem dX6_init_25 : decode cX6_init 25 = .ok (.putfield 18, 3) := by decide +kernel
theorem dX6_init_28 : decode cX6_init 28 = .ok (.aload_n 0, 1) := by decide +kernel
theorem dX6_init_29 : decode cX6_init 29 = .ok (.bipush 17, 2) := by decide +kernel
theorem dX6_init_31 : decode cX6_init 31 = .ok (.newarray .int, 2) := by decide +kernel
theorem dX6_init_33 : decode cX6_init 33 = .ok (.putfield 21, 3) := by decide +kernel
theorem dX6_init_36 : decode cX6_init 36 = .ok (.return_, 1) := by decide +kernel
theorem dX6_readFirst_0 : decode cX6_readFirst 0 = .ok (.aload_n 0, 1) := by decide +kernel
theorem dX6_readFirst_1 : decode cX6_readFirst 1 = .ok (.aload_n 1, 1) := by decide +kernel
theorem dX6_readFirst_2 : decode cX6_readFirst 2 = .ok (.aload_n 2, 1) := by decide +kernel
theorem dX6_readFirst_3 : decode cX6_readFirst 3 = .ok (.aload_n 0, 1) := by decide +kernel
theorem dX6_readFirst_4 : decode cX6_readFirst 4 = .ok (.getfield 9, 3) := by decide +kernel
theorem dX6_readFirst_7 : decode cX6_readFirst 7 = .ok (.invokevirtual 24, 3) := by decide +kernel
theorem dX6_readFirst_10 : decode cX6_readFirst 10 = .ok (.return_, 1) := by decide +kernel
theorem dX6_readSecond_0 : decode cX6_readSecond 0 = .ok (.aload_n 0, 1) := by decide +kernel
theorem dX6_readSecond_1 : decode cX6_readSecond 1 = .ok (.aload_n 1, 1) := by decide +kernel
theorem dX6_readSecond_2 : decode cX6_readSecond 2 = .ok (.aload_n 2, 1) := by decide +kernel
theorem dX6_readSecond_3 : decode cX6_readSecond 3 = .ok (.aload_n 0, 1) := by decide +kernel
theorem dX6_readSecond_4 : decode cX6_readSecond 4 = .ok (.getfield 15, 3) := by decide +kernel
theorem dX6_readSecond_7 : decode cX6_readSecond 7 = .ok (.invokevirtual 24, 3) := by decide +kernel
theorem dX6_readSecond_10 : decode cX6_readSecond 10 = .ok (.return_, 1) := by decide +kernel
theorem dX6_readEdges_0 : decode cX6_readEdges 0 = .ok (.aload_n 1, 1) := by decide +kernel
theorem dX6_readEdges_1 : decode cX6_readEdges 1 = .ok (.iconst 0, 1) := by decide +kernel
theorem dX6_readEdges_2 : decode cX6_readEdges 2 = .ok (.invokevirtual 28, 3) := by decide +kernel
theorem dX6_readEdges_5 : decode cX6_readEdges 5 = .ok (.istore 4, 2) := by decide +kernel
theorem dX6_readEdges_7 : decode cX6_readEdges 7 = .ok (.iconst 0, 1) := by decide +kernel
theorem dX6_readEdges_8 : decode cX6_readEdges 8 = .ok (.istore 5, 2) := by decide +kernel
theorem dX6_readEdges_10 : decode cX6_readEdges 10 = .ok (.iload 5, 2) := by decide +kernel
theorem dX6_readEdges_12 : decode cX6_readEdges 12 = .ok (.aload_n 3, 1) := by decide +kernel
theorem dX6_readEdges_13 : decode cX6_readEdges 13 = .ok (.arraylength, 1) := by decide +kernel
theorem dX6_readEdges_14 : decode cX6_readEdges 14 = .ok (.if_icmp .ge 35, 3) := by decide +kernel
theorem dX6_readEdges_17 : decode cX6_readEdges 17 = .ok (.aload_n 3, 1) := by decide +kernel
theorem dX6_readEdges_18 : decode cX6_readEdges 18 = .ok (.iload 5, 2) := by decide +kernel
theorem dX6_readEdges_20 : decode cX6_readEdges 20 = .ok (.aload_n 2, 1) := by decide +kernel
theorem dX6_readEdges_21 : decode cX6_readEdges 21 = .ok (.ifnull 20, 3) := by decide +kernel
theorem dX6_readEdges_24 : decode cX6_readEdges 24 = .ok (.iload 5, 2) := by decide +kernel
theorem dX6_readEdges_26 : decode cX6_readEdges 26 = .ok (.iload 4, 2) := by decide +kernel
theorem dX6_readEdges_28 : decode cX6_readEdges 28 = .ok (.if_icmp .ge 13, 3) := by decide +kernel
theorem dX6_readEdges_31 : decode cX6_readEdges 31 = .ok (.aload_n 1, 1) := by decide +kernel
theorem dX6_readEdges_32 : decode cX6_readEdges 32 = .ok (.aload_n 2, 1) := by decide +kernel
theorem dX6_readEdges_33 : decode cX6_readEdges 33 = .ok (.iload 5, 2) := by decide +kernel
theorem dX6_readEdges_35 : decode cX6_readEdges 35 = .ok (.invokevirtual 34, 3) := by decide +kernel
theorem dX6_readEdges_38 : decode cX6_readEdges 38 = .ok (.goto 4, 3) := by decide +kernel
theorem dX6_readEdges_41 : decode cX6_readEdges 41 = .ok (.iconst 0, 1) := by decide +kernel
theorem dX6_readEdges_42 : decode cX6_readEdges 42 = .ok (.iastore, 1) := by decide +kernel
theorem dX6_readEdges_43 : decode cX6_readEdges 43 = .ok (.iinc 5 1, 3) := by decide +kernel
theorem dX6_readEdges_46 : decode cX6_readEdges 46 = .ok (.goto (-36), 3) := by decide +kernel
theorem dX6_readEdges_49 : decode cX6_readEdges 49 = .ok (.return_, 1) := by decide +kernel
theorem dX6_voteOnShift_0 : decode cX6_voteOnShift 0 = .ok (.iconst 0, 1) := by decide +kernel
theorem dX6_voteOnShift_1 : decode cX6_voteOnShift 1 = .ok (.istore_n 1, 1) := by decide +kernel
theorem dX6_voteOnShift_2 : decode cX6_voteOnShift 2 = .ok (.iload_n 1, 1) := by decide +kernel
theorem dX6_voteOnShift_3 : decode cX6_voteOnShift 3 = .ok (.aload_n 0, 1) := by decide +kernel
theorem dX6_voteOnShift_4 : decode cX6_voteOnShift 4 = .ok (.getfield 18, 3) := by decide +kernel
theorem dX6_voteOnShift_7 : decode cX6_voteOnShift 7 = .ok (.arraylength, 1) := by decide +kernel
theorem dX6_voteOnShift_8 : decode cX6_voteOnShift 8 = .ok (.if_icmp .ge 34, 3) := by decide +kernel
theorem dX6_voteOnShift_11 : decode cX6_voteOnShift 11 = .ok (.aload_n 0, 1) := by decide +kernel
theorem dX6_voteOnShift_12 : decode cX6_voteOnShift 12 = .ok (.getfield 18, 3) := by decide +kernel
theorem dX6_voteOnShift_15 : decode cX6_voteOnShift 15 = .ok (.iload_n 1, 1) := by decide +kernel
theorem dX6_voteOnShift_16 : decode cX6_voteOnShift 16 = .ok (.aload_n 0, 1) := by decide +kernel
theorem dX6_voteOnShift_17 : decode cX6_voteOnShift 17 = .ok (.getfield 9, 3) := by decide +kernel
theorem dX6_voteOnShift_20 : decode cX6_voteOnShift 20 = .ok (.iload_n 1, 1) := by decide +kernel
theorem dX6_voteOnShift_21 : decode cX6_voteOnShift 21 = .ok (.invokestatic 38, 3) := by decide +kernel
theorem dX6_voteOnShift_24 : decode cX6_voteOnShift 24 = .ok (.aload_n 0, 1) := by decide +kernel
theorem dX6_voteOnShift_25 : decode cX6_voteOnShift 25 = .ok (.getfield 15, 3) := by decide +kernel
theorem dX6_voteOnShift_28 : decode cX6_voteOnShift 28 = .ok (.iload_n 1, 1) := by decide +kernel
theorem dX6_voteOnShift_29 : decode cX6_voteOnShift 29 = .ok (.invokestatic 38, 3) := by decide +kernel
theorem dX6_voteOnShift_32 : decode cX6_voteOnShift 32 = .ok (.invokestatic 42, 3) := by decide +kernel
theorem dX6_voteOnShift_35 : decode cX6_voteOnShift 35 = .ok (.iastore, 1) := by decide +kernel
theorem dX6_voteOnShift_36 : decode cX6_voteOnShift 36 = .ok (.iinc 1 1, 3) := by decide +kernel
theorem dX6_voteOnShift_39 : decode cX6_voteOnShift 39 = .ok (.goto (-37), 3) := by decide +kernel
theorem dX6_voteOnShift_42 : decode cX6_voteOnShift 42 = .ok (.aload_n 0, 1) := by decide +kernel
theorem dX6_voteOnShift_43 : decode cX6_voteOnShift 43 = .ok (.aconst_null, 1) := by decide +kernel
theorem dX6_voteOnShift_44 : decode cX6_voteOnShift 44 = .ok (.invokevirtual 46, 3) := by decide +kernel
theorem dX6_voteOnShift_47 : decode cX6_voteOnShift 47 = .ok (.return_, 1) := by decide +kernel
theorem dX6_voteOnSlant_0 : decode cX6_voteOnSlant 0 = .ok (.aload_n 0, 1) := by decide +kernel
theorem dX6_voteOnSlant_1 : decode cX6_voteOnSlant 1 = .ok (.aload_n 1, 1) := by decide +kernel
theorem dX6_voteOnSlant_2 : decode cX6_voteOnSlant 2 = .ok (.aload_n 2, 1) := by decide +kernel
theorem dX6_voteOnSlant_3 : decode cX6_voteOnSlant 3 = .ok (.invokevirtual 50, 3) := by decide +kernel
theorem dX6_voteOnSlant_6 : decode cX6_voteOnSlant 6 = .ok (.iconst 0, 1) := by decide +kernel
theorem dX6_voteOnSlant_7 : decode cX6_voteOnSlant 7 = .ok (.istore_n 3, 1) := by decide +kernel
theorem dX6_voteOnSlant_8 : decode cX6_voteOnSlant 8 = .ok (.iload_n 3, 1) := by decide +kernel
theorem dX6_voteOnSlant_9 : decode cX6_voteOnSlant 9 = .ok (.aload_n 0, 1) := by decide +kernel
theorem dX6_voteOnSlant_10 : decode cX6_voteOnSlant 10 = .ok (.getfield 18, 3) := by decide +kernel
theorem dX6_voteOnSlant_13 : decode cX6_voteOnSlant 13 = .ok (.arraylength, 1) := by decide +kernel
theorem dX6_voteOnSlant_14 : decode cX6_voteOnSlant 14 = .ok (.if_icmp .ge 36, 3) := by decide +kernel
theorem dX6_voteOnSlant_17 : decode cX6_voteOnSlant 17 = .ok (.aload_n 0, 1) := by decide +kernel
theorem dX6_voteOnSlant_18 : decode cX6_voteOnSlant 18 = .ok (.getfield 18, 3) := by decide +kernel
theorem dX6_voteOnSlant_21 : decode cX6_voteOnSlant 21 = .ok (.iload_n 3, 1) := by decide +kernel
theorem dX6_voteOnSlant_22 : decode cX6_voteOnSlant 22 = .ok (.aload_n 0, 1) := by decide +kernel
theorem dX6_voteOnSlant_23 : decode cX6_voteOnSlant 23 = .ok (.getfield 9, 3) := by decide +kernel
theorem dX6_voteOnSlant_26 : decode cX6_voteOnSlant 26 = .ok (.iload_n 3, 1) := by decide +kernel
theorem dX6_voteOnSlant_27 : decode cX6_voteOnSlant 27 = .ok (.invokestatic 38, 3) := by decide +kernel
theorem dX6_voteOnSlant_30 : decode cX6_voteOnSlant 30 = .ok (.aload_n 0, 1) := by decide +kernel
theorem dX6_voteOnSlant_31 : decode cX6_voteOnSlant 31 = .ok (.getfield 9, 3) := by decide +kernel
theorem dX6_voteOnSlant_34 : decode cX6_voteOnSlant 34 = .ok (.iload_n 3, 1) := by decide +kernel
theorem dX6_voteOnSlant_35 : decode cX6_voteOnSlant 35 = .ok (.iconst 1, 1) := by decide +kernel
theorem dX6_voteOnSlant_36 : decode cX6_voteOnSlant 36 = .ok (.iadd, 1) := by decide +kernel
theorem dX6_voteOnSlant_37 : decode cX6_voteOnSlant 37 = .ok (.invokestatic 38, 3) := by decide +kernel
theorem dX6_voteOnSlant_40 : decode cX6_voteOnSlant 40 = .ok (.invokestatic 42, 3) := by decide +kernel
theorem dX6_voteOnSlant_43 : decode cX6_voteOnSlant 43 = .ok (.iastore, 1) := by decide +kernel
theorem dX6_voteOnSlant_44 : decode cX6_voteOnSlant 44 = .ok (.iinc 3 1, 3) := by decide +kernel
theorem dX6_voteOnSlant_47 : decode cX6_voteOnSlant 47 = .ok (.goto (-39), 3) := by decide +kernel
theorem dX6_voteOnSlant_50 : decode cX6_voteOnSlant 50 = .ok (.aload_n 0, 1) := by decide +kernel
theorem dX6_voteOnSlant_51 : decode cX6_voteOnSlant 51 = .ok (.aconst_null, 1) := by decide +kernel
theorem dX6_voteOnSlant_52 : decode cX6_voteOnSlant 52 = .ok (.invokevirtual 46, 3) := by decide +kernel
theorem dX6_voteOnSlant_55 : decode cX6_voteOnSlant 55 = .ok (.return_, 1) := by decide +kernel
theorem dX6_weigh_0 : decode cX6_weigh 0 = .ok (.aload_n 0, 1) := by decide +kernel
theorem dX6_weigh_1 : decode cX6_weigh 1 = .ok (.aload_n 1, 1) := by decide +kernel
theorem dX6_weigh_2 : decode cX6_weigh 2 = .ok (.invokevirtual 46, 3) := by decide +kernel
theorem dX6_weigh_5 : decode cX6_weigh 5 = .ok (.return_, 1) := by decide +kernel
theorem dX6_countVotes_0 : decode cX6_countVotes 0 = .ok (.iconst 0, 1) := by decide +kernel
theorem dX6_countVotes_1 : decode cX6_countVotes 1 = .ok (.istore_n 2, 1) := by decide +kernel
theorem dX6_countVotes_2 : decode cX6_countVotes 2 = .ok (.iload_n 2, 1) := by decide +kernel
theorem dX6_countVotes_3 : decode cX6_countVotes 3 = .ok (.aload_n 0, 1) := by decide +kernel
theorem dX6_countVotes_4 : decode cX6_countVotes 4 = .ok (.getfield 21, 3) := by decide +kernel
theorem dX6_countVotes_7 : decode cX6_countVotes 7 = .ok (.arraylength, 1) := by decide +kernel
theorem dX6_countVotes_8 : decode cX6_countVotes 8 = .ok (.if_icmp .ge 16, 3) := by decide +kernel
theorem dX6_countVotes_11 : decode cX6_countVotes 11 = .ok (.aload_n 0, 1) := by decide +kernel
theorem dX6_countVotes_12 : decode cX6_countVotes 12 = .ok (.getfield 21, 3) := by decide +kernel
theorem dX6_countVotes_15 : decode cX6_countVotes 15 = .ok (.iload_n 2, 1) := by decide +kernel
theorem dX6_countVotes_16 : decode cX6_countVotes 16 = .ok (.iconst 0, 1) := by decide +kernel
theorem dX6_countVotes_17 : decode cX6_countVotes 17 = .ok (.iastore, 1) := by decide +kernel
theorem dX6_countVotes_18 : decode cX6_countVotes 18 = .ok (.iinc 2 1, 3) := by decide +kernel
theorem dX6_countVotes_21 : decode cX6_countVotes 21 = .ok (.goto (-19), 3) := by decide +kernel
theorem dX6_countVotes_24 : decode cX6_countVotes 24 = .ok (.iconst 0, 1) := by decide +kernel
theorem dX6_countVotes_25 : decode cX6_countVotes 25 = .ok (.istore_n 2, 1) := by decide +kernel
theorem dX6_countVotes_26 : decode cX6_countVotes 26 = .ok (.iload_n 2, 1) := by decide +kernel
theorem dX6_countVotes_27 : decode cX6_countVotes 27 = .ok (.aload_n 0, 1) := by decide +kernel
theorem dX6_countVotes_28 : decode cX6_countVotes 28 = .ok (.getfield 18, 3) := by decide +kernel
theorem dX6_countVotes_31 : decode cX6_countVotes 31 = .ok (.arraylength, 1) := by decide +kernel
theorem dX6_countVotes_32 : decode cX6_countVotes 32 = .ok (.if_icmp .ge 65, 3) := by decide +kernel
theorem dX6_countVotes_35 : decode cX6_countVotes 35 = .ok (.aload_n 0, 1) := by decide +kernel
theorem dX6_countVotes_36 : decode cX6_countVotes 36 = .ok (.getfield 18, 3) := by decide +kernel
theorem dX6_countVotes_39 : decode cX6_countVotes 39 = .ok (.iload_n 2, 1) := by decide +kernel
theorem dX6_countVotes_40 : decode cX6_countVotes 40 = .ok (.iaload, 1) := by decide +kernel
theorem dX6_countVotes_41 : decode cX6_countVotes 41 = .ok (.bipush 8, 2) := by decide +kernel
theorem dX6_countVotes_43 : decode cX6_countVotes 43 = .ok (.iadd, 1) := by decide +kernel
theorem dX6_countVotes_44 : decode cX6_countVotes 44 = .ok (.istore_n 3, 1) := by decide +kernel
theorem dX6_countVotes_45 : decode cX6_countVotes 45 = .ok (.aload_n 0, 1) := by decide +kernel
theorem dX6_countVotes_46 : decode cX6_countVotes 46 = .ok (.getfield 18, 3) := by decide +kernel
theorem dX6_countVotes_49 : decode cX6_countVotes 49 = .ok (.iload_n 2, 1) := by decide +kernel
theorem dX6_countVotes_50 : decode cX6_countVotes 50 = .ok (.iaload, 1) := by decide +kernel
theorem dX6_countVotes_51 : decode cX6_countVotes 51 = .ok (.ldc 54, 2) := by decide +kernel
theorem dX6_countVotes_53 : decode cX6_countVotes 53 = .ok (.if_icmp .eq 38, 3) := by decide +kernel
theorem dX6_countVotes_56 : decode cX6_countVotes 56 = .ok (.iload_n 3, 1) := by decide +kernel
theorem dX6_countVotes_57 : decode cX6_countVotes 57 = .ok (.ifCond .lt 34, 3) := by decide +kernel
theorem dX6_countVotes_60 : decode cX6_countVotes 60 = .ok (.iload_n 3, 1) := by decide +kernel
theorem dX6_countVotes_61 : decode cX6_countVotes 61 = .ok (.aload_n 0, 1) := by decide +kernel
theorem dX6_countVotes_62 : decode cX6_countVotes 62 = .ok (.getfield 21, 3) := by decide +kernel
theorem dX6_countVotes_65 : decode cX6_countVotes 65 = .ok (.arraylength, 1) := by decide +kernel
theorem dX6_countVotes_66 : decode cX6_countVotes 66 = .ok (.if_icmp .ge 25, 3) := by decide +kernel
theorem dX6_countVotes_69 : decode cX6_countVotes 69 = .ok (.aload_n 0, 1) := by decide +kernel
theorem dX6_countVotes_70 : decode cX6_countVotes 70 = .ok (.getfield 21, 3) := by decide +kernel
theorem dX6_countVotes_73 : decode cX6_countVotes 73 = .ok (.iload_n 3, 1) := by decide +kernel
theorem dX6_countVotes_74 : decode cX6_countVotes 74 = .ok (.dup2, 1) := by decide +kernel
theorem dX6_countVotes_75 : decode cX6_countVotes 75 = .ok (.iaload, 1) := by decide +kernel
theorem dX6_countVotes_76 : decode cX6_countVotes 76 = .ok (.aload_n 1, 1) := by decide +kernel
theorem dX6_countVotes_77 : decode cX6_countVotes 77 = .ok (.ifnonnull 7, 3) := by decide +kernel
theorem dX6_countVotes_80 : decode cX6_countVotes 80 = .ok (.iconst 1, 1) := by decide +kernel
theorem dX6_countVotes_81 : decode cX6_countVotes 81 = .ok (.goto 8, 3) := by decide +kernel
theorem dX6_countVotes_84 : decode cX6_countVotes 84 = .ok (.aload_n 1, 1) := by decide +kernel
theorem dX6_countVotes_85 : decode cX6_countVotes 85 = .ok (.iload_n 2, 1) := by decide +kernel
theorem dX6_countVotes_86 : decode cX6_countVotes 86 = .ok (.invokevirtual 55, 3) := by decide +kernel
theorem dX6_countVotes_89 : decode cX6_countVotes 89 = .ok (.iadd, 1) := by decide +kernel
theorem dX6_countVotes_90 : decode cX6_countVotes 90 = .ok (.iastore, 1) := by decide +kernel
theorem dX6_countVotes_91 : decode cX6_countVotes 91 = .ok (.iinc 2 1, 3) := by decide +kernel
theorem dX6_countVotes_94 : decode cX6_countVotes 94 = .ok (.goto (-68), 3) := by decide +kernel
theorem dX6_countVotes_97 : decode cX6_countVotes 97 = .ok (.return_, 1) := by decide +kernel
theorem dX6_voteOf_0 : decode cX6_voteOf 0 = .ok (.iload_n 1, 1) := by decide +kernel
theorem dX6_voteOf_1 : decode cX6_voteOf 1 = .ok (.ifCond .lt 21, 3) := by decide +kernel
theorem dX6_voteOf_4 : decode cX6_voteOf 4 = .ok (.iload_n 1, 1) := by decide +kernel
theorem dX6_voteOf_5 : decode cX6_voteOf 5 = .ok (.aload_n 0, 1) := by decide +kernel
theorem dX6_voteOf_6 : decode cX6_voteOf 6 = .ok (.getfield 18, 3) := by decide +kernel
theorem dX6_voteOf_9 : decode cX6_voteOf 9 = .ok (.arraylength, 1) := by decide +kernel
theorem dX6_voteOf_10 : decode cX6_voteOf 10 = .ok (.if_icmp .ge 12, 3) := by decide +kernel
theorem dX6_voteOf_13 : decode cX6_voteOf 13 = .ok (.aload_n 0, 1) := by decide +kernel
theorem dX6_voteOf_14 : decode cX6_voteOf 14 = .ok (.getfield 18, 3) := by decide +kernel
theorem dX6_voteOf_17 : decode cX6_voteOf 17 = .ok (.iload_n 1, 1) := by decide +kernel
theorem dX6_voteOf_18 : decode cX6_voteOf 18 = .ok (.iaload, 1) := by decide +kernel
theorem dX6_voteOf_19 : decode cX6_voteOf 19 = .ok (.goto 5, 3) := by decide +kernel
theorem dX6_voteOf_22 : decode cX6_voteOf 22 = .ok (.ldc 54, 2) := by decide +kernel
theorem dX6_voteOf_24 : decode cX6_voteOf 24 = .ok (.ireturn, 1) := by decide +kernel
theorem dX6_votersFor_0 : decode cX6_votersFor 0 = .ok (.iconst 0, 1) := by decide +kernel
theorem dX6_votersFor_1 : decode cX6_votersFor 1 = .ok (.istore_n 2, 1) := by decide +kernel
theorem dX6_votersFor_2 : decode cX6_votersFor 2 = .ok (.iconst 0, 1) := by decide +kernel
theorem dX6_votersFor_3 : decode cX6_votersFor 3 = .ok (.istore_n 3, 1) := by decide +kernel
theorem dX6_votersFor_4 : decode cX6_votersFor 4 = .ok (.iload_n 3, 1) := by decide +kernel
theorem dX6_votersFor_5 : decode cX6_votersFor 5 = .ok (.aload_n 0, 1) := by decide +kernel
theorem dX6_votersFor_6 : decode cX6_votersFor 6 = .ok (.getfield 18, 3) := by decide +kernel
theorem dX6_votersFor_9 : decode cX6_votersFor 9 = .ok (.arraylength, 1) := by decide +kernel
theorem dX6_votersFor_10 : decode cX6_votersFor 10 = .ok (.if_icmp .ge 25, 3) := by decide +kernel
theorem dX6_votersFor_13 : decode cX6_votersFor 13 = .ok (.aload_n 0, 1) := by decide +kernel
theorem dX6_votersFor_14 : decode cX6_votersFor 14 = .ok (.getfield 18, 3) := by decide +kernel
theorem dX6_votersFor_17 : decode cX6_votersFor 17 = .ok (.iload_n 3, 1) := by decide +kernel
theorem dX6_votersFor_18 : decode cX6_votersFor 18 = .ok (.iaload, 1) := by decide +kernel
theorem dX6_votersFor_19 : decode cX6_votersFor 19 = .ok (.iload_n 1, 1) := by decide +kernel
theorem dX6_votersFor_20 : decode cX6_votersFor 20 = .ok (.if_icmp .ne 9, 3) := by decide +kernel
theorem dX6_votersFor_23 : decode cX6_votersFor 23 = .ok (.iload_n 2, 1) := by decide +kernel
theorem dX6_votersFor_24 : decode cX6_votersFor 24 = .ok (.iconst 1, 1) := by decide +kernel
theorem dX6_votersFor_25 : decode cX6_votersFor 25 = .ok (.iload_n 3, 1) := by decide +kernel
theorem dX6_votersFor_26 : decode cX6_votersFor 26 = .ok (.ishl, 1) := by decide +kernel
theorem dX6_votersFor_27 : decode cX6_votersFor 27 = .ok (.ior, 1) := by decide +kernel
theorem dX6_votersFor_28 : decode cX6_votersFor 28 = .ok (.istore_n 2, 1) := by decide +kernel
theorem dX6_votersFor_29 : decode cX6_votersFor 29 = .ok (.iinc 3 1, 3) := by decide +kernel
theorem dX6_votersFor_32 : decode cX6_votersFor 32 = .ok (.goto (-28), 3) := by decide +kernel
theorem dX6_votersFor_35 : decode cX6_votersFor 35 = .ok (.iload_n 2, 1) := by decide +kernel
theorem dX6_votersFor_36 : decode cX6_votersFor 36 = .ok (.ireturn, 1) := by decide +kernel
theorem dX6_votersAtAll_0 : decode cX6_votersAtAll 0 = .ok (.iconst 1, 1) := by decide +kernel
theorem dX6_votersAtAll_1 : decode cX6_votersAtAll 1 = .ok (.aload_n 0, 1) := by decide +kernel
theorem dX6_votersAtAll_2 : decode cX6_votersAtAll 2 = .ok (.getfield 18, 3) := by decide +kernel
theorem dX6_votersAtAll_5 : decode cX6_votersAtAll 5 = .ok (.arraylength, 1) := by decide +kernel
theorem dX6_votersAtAll_6 : decode cX6_votersAtAll 6 = .ok (.ishl, 1) := by decide +kernel
theorem dX6_votersAtAll_7 : decode cX6_votersAtAll 7 = .ok (.iconst 1, 1) := by decide +kernel
theorem dX6_votersAtAll_8 : decode cX6_votersAtAll 8 = .ok (.isub, 1) := by decide +kernel
theorem dX6_votersAtAll_9 : decode cX6_votersAtAll 9 = .ok (.aload_n 0, 1) := by decide +kernel
theorem dX6_votersAtAll_10 : decode cX6_votersAtAll 10 = .ok (.ldc 54, 2) := by decide +kernel
theorem dX6_votersAtAll_12 : decode cX6_votersAtAll 12 = .ok (.invokevirtual 58, 3) := by decide +kernel
theorem dX6_votersAtAll_15 : decode cX6_votersAtAll 15 = .ok (.iconst (-1), 1) := by decide +kernel
theorem dX6_votersAtAll_16 : decode cX6_votersAtAll 16 = .ok (.ixor, 1) := by decide +kernel
theorem dX6_votersAtAll_17 : decode cX6_votersAtAll 17 = .ok (.iand, 1) := by decide +kernel
theorem dX6_votersAtAll_18 : decode cX6_votersAtAll 18 = .ok (.ireturn, 1) := by decide +kernel
theorem dX6_mostVotes_0 : decode cX6_mostVotes 0 = .ok (.iconst 0, 1) := by decide +kernel
theorem dX6_mostVotes_1 : decode cX6_mostVotes 1 = .ok (.istore_n 1, 1) := by decide +kernel
theorem dX6_mostVotes_2 : decode cX6_mostVotes 2 = .ok (.iconst 0, 1) := by decide +kernel
theorem dX6_mostVotes_3 : decode cX6_mostVotes 3 = .ok (.istore_n 2, 1) := by decide +kernel
theorem dX6_mostVotes_4 : decode cX6_mostVotes 4 = .ok (.iload_n 2, 1) := by decide +kernel
theorem dX6_mostVotes_5 : decode cX6_mostVotes 5 = .ok (.aload_n 0, 1) := by decide +kernel
theorem dX6_mostVotes_6 : decode cX6_mostVotes 6 = .ok (.getfield 21, 3) := by decide +kernel
theorem dX6_mostVotes_9 : decode cX6_mostVotes 9 = .ok (.arraylength, 1) := by decide +kernel
theorem dX6_mostVotes_10 : decode cX6_mostVotes 10 = .ok (.if_icmp .ge 20, 3) := by decide +kernel
theorem dX6_mostVotes_13 : decode cX6_mostVotes 13 = .ok (.iload_n 1, 1) := by decide +kernel
theorem dX6_mostVotes_14 : decode cX6_mostVotes 14 = .ok (.aload_n 0, 1) := by decide +kernel
theorem dX6_mostVotes_15 : decode cX6_mostVotes 15 = .ok (.getfield 21, 3) := by decide +kernel
theorem dX6_mostVotes_18 : decode cX6_mostVotes 18 = .ok (.iload_n 2, 1) := by decide +kernel
theorem dX6_mostVotes_19 : decode cX6_mostVotes 19 = .ok (.iaload, 1) := by decide +kernel
theorem dX6_mostVotes_20 : decode cX6_mostVotes 20 = .ok (.invokestatic 61, 3) := by decide +kernel
theorem dX6_mostVotes_23 : decode cX6_mostVotes 23 = .ok (.istore_n 1, 1) := by decide +kernel
theorem dX6_mostVotes_24 : decode cX6_mostVotes 24 = .ok (.iinc 2 1, 3) := by decide +kernel
theorem dX6_mostVotes_27 : decode cX6_mostVotes 27 = .ok (.goto (-23), 3) := by decide +kernel
theorem dX6_mostVotes_30 : decode cX6_mostVotes 30 = .ok (.iload_n 1, 1) := by decide +kernel
theorem dX6_mostVotes_31 : decode cX6_mostVotes 31 = .ok (.ireturn, 1) := by decide +kernel
theorem dX6_told_0 : decode cX6_told 0 = .ok (.aload_n 0, 1) := by decide +kernel
theorem dX6_told_1 : decode cX6_told 1 = .ok (.invokevirtual 66, 3) := by decide +kernel
theorem dX6_told_4 : decode cX6_told 4 = .ok (.istore_n 1, 1) := by decide +kernel
theorem dX6_told_5 : decode cX6_told 5 = .ok (.ldc 54, 2) := by decide +kernel
theorem dX6_told_7 : decode cX6_told 7 = .ok (.istore_n 2, 1) := by decide +kernel
theorem dX6_told_8 : decode cX6_told 8 = .ok (.iconst 0, 1) := by decide +kernel
theorem dX6_told_9 : decode cX6_told 9 = .ok (.istore_n 3, 1) := by decide +kernel
theorem dX6_told_10 : decode cX6_told 10 = .ok (.iconst 0, 1) := by decide +kernel
theorem dX6_told_11 : decode cX6_told 11 = .ok (.istore 4, 2) := by decide +kernel
theorem dX6_told_13 : decode cX6_told 13 = .ok (.iload 4, 2) := by decide +kernel
theorem dX6_told_15 : decode cX6_told 15 = .ok (.aload_n 0, 1) := by decide +kernel
theorem dX6_told_16 : decode cX6_told 16 = .ok (.getfield 21, 3) := by decide +kernel
theorem dX6_told_19 : decode cX6_told 19 = .ok (.arraylength, 1) := by decide +kernel
theorem dX6_told_20 : decode cX6_told 20 = .ok (.if_icmp .ge 33, 3) := by decide +kernel
theorem dX6_told_23 : decode cX6_told 23 = .ok (.iload_n 1, 1) := by decide +kernel
theorem dX6_told_24 : decode cX6_told 24 = .ok (.ifCond .le 23, 3) := by decide +kernel
theorem dX6_told_27 : decode cX6_told 27 = .ok (.aload_n 0, 1) := by decide +kernel
theorem dX6_told_28 : decode cX6_told 28 = .ok (.getfield 21, 3) := by decide +kernel
theorem dX6_told_31 : decode cX6_told 31 = .ok (.iload 4, 2) := by decide +kernel
theorem dX6_told_33 : decode cX6_told 33 = .ok (.iaload, 1) := by decide +kernel
theorem dX6_told_34 : decode cX6_told 34 = .ok (.iload_n 1, 1) := by decide +kernel
theorem dX6_told_35 : decode cX6_told 35 = .ok (.if_icmp .ne 12, 3) := by decide +kernel
theorem dX6_told_38 : decode cX6_told 38 = .ok (.iload 4, 2) := by decide +kernel
theorem dX6_told_40 : decode cX6_told 40 = .ok (.bipush 8, 2) := by decide +kernel
theorem dX6_told_42 : decode cX6_told 42 = .ok (.isub, 1) := by decide +kernel
theorem dX6_told_43 : decode cX6_told 43 = .ok (.istore_n 2, 1) := by decide +kernel
theorem dX6_told_44 : decode cX6_told 44 = .ok (.iinc 3 1, 3) := by decide +kernel
theorem dX6_told_47 : decode cX6_told 47 = .ok (.iinc 4 1, 3) := by decide +kernel
theorem dX6_told_50 : decode cX6_told 50 = .ok (.goto (-37), 3) := by decide +kernel
theorem dX6_told_53 : decode cX6_told 53 = .ok (.iload_n 3, 1) := by decide +kernel
theorem dX6_told_54 : decode cX6_told 54 = .ok (.iconst 1, 1) := by decide +kernel
theorem dX6_told_55 : decode cX6_told 55 = .ok (.if_icmp .ne 7, 3) := by decide +kernel
theorem dX6_told_58 : decode cX6_told 58 = .ok (.iload_n 2, 1) := by decide +kernel
theorem dX6_told_59 : decode cX6_told 59 = .ok (.goto 5, 3) := by decide +kernel
theorem dX6_told_62 : decode cX6_told 62 = .ok (.ldc 54, 2) := by decide +kernel
theorem dX6_told_64 : decode cX6_told 64 = .ok (.ireturn, 1) := by decide +kernel
end
section
theorem dX7_init_0 : decode cX7_init 0 = .ok (.aload_n 0, 1) := by decide +kernel
theorem dX7_init_1 : decode cX7_init 1 = .ok (.invokespecial 3, 3) := by decide +kernel
theorem dX7_init_4 : decode cX7_init 4 = .ok (.aload_n 0, 1) := by decide +kernel
theorem dX7_init_5 : decode cX7_init 5 = .ok (.new 9, 3) := by decide +kernel
theorem dX7_init_8 : decode cX7_init 8 = .ok (.dup, 1) := by decide +kernel
theorem dX7_init_9 : decode cX7_init 9 = .ok (.invokespecial 11, 3) := by decide +kernel
theorem dX7_init_12 : decode cX7_init 12 = .ok (.putfield 12, 3) := by decide +kernel
theorem dX7_init_15 : decode cX7_init 15 = .ok (.aload_n 0, 1) := by decide +kernel
theorem dX7_init_16 : decode cX7_init 16 = .ok (.iconst 4, 1) := by decide +kernel
theorem dX7_init_17 : decode cX7_init 17 = .ok (.anewarray 9, 3) := by decide +kernel
theorem dX7_init_20 : decode cX7_init 20 = .ok (.putfield 16, 3) := by decide +kernel
theorem dX7_init_23 : decode cX7_init 23 = .ok (.aload_n 0, 1) := by decide +kernel
theorem dX7_init_24 : decode cX7_init 24 = .ok (.iconst 0, 1) := by decide +kernel
theorem dX7_init_25 : decode cX7_init 25 = .ok (.putfield 20, 3) := by decide +kernel
theorem dX7_init_28 : decode cX7_init 28 = .ok (.aload_n 0, 1) := by decide +kernel
theorem dX7_init_29 : decode cX7_init 29 = .ok (.new 24, 3) := by decide +kernel
theorem dX7_init_32 : decode cX7_init 32 = .ok (.dup, 1) := by decide +kernel
theorem dX7_init_33 : decode cX7_init 33 = .ok (.invokespecial 26, 3) := by decide +kernel
theorem dX7_init_36 : decode cX7_init 36 = .ok (.putfield 27, 3) := by decide +kernel
theorem dX7_init_39 : decode cX7_init 39 = .ok (.aload_n 0, 1) := by decide +kernel
theorem dX7_init_40 : decode cX7_init 40 = .ok (.new 31, 3) := by decide +kernel
theorem dX7_init_43 : decode cX7_init 43 = .ok (.dup, 1) := by decide +kernel
theorem dX7_init_44 : decode cX7_init 44 = .ok (.invokespecial 33, 3) := by decide +kernel
theorem dX7_init_47 : decode cX7_init 47 = .ok (.putfield 34, 3) := by decide +kernel
theorem dX7_init_50 : decode cX7_init 50 = .ok (.aload_n 0, 1) := by decide +kernel
theorem dX7_init_51 : decode cX7_init 51 = .ok (.new 38, 3) := by decide +kernel
theorem dX7_init_54 : decode cX7_init 54 = .ok (.dup, 1) := by decide +kernel
theorem dX7_init_55 : decode cX7_init 55 = .ok (.invokespecial 40, 3) := by decide +kernel
theorem dX7_init_58 : decode cX7_init 58 = .ok (.putfield 41, 3) := by decide +kernel
theorem dX7_init_61 : decode cX7_init 61 = .ok (.aload_n 0, 1) := by decide +kernel
theorem dX7_init_62 : decode cX7_init 62 = .ok (.new 45, 3) := by decide +kernel
theorem dX7_init_65 : decode cX7_init 65 = .ok (.dup, 1) := by decide +kernel
theorem dX7_init_66 : decode cX7_init 66 = .ok (.invokespecial 47, 3) := by decide +kernel
theorem dX7_init_69 : decode cX7_init 69 = .ok (.putfield 48, 3) := by decide +kernel
theorem dX7_init_72 : decode cX7_init 72 = .ok (.aload_n 0, 1) := by decide +kernel
theorem dX7_init_73 : decode cX7_init 73 = .ok (.bipush 16, 2) := by decide +kernel
theorem dX7_init_75 : decode cX7_init 75 = .ok (.newarray .int, 2) := by decide +kernel
theorem dX7_init_77 : decode cX7_init 77 = .ok (.putfield 52, 3) := by decide +kernel
theorem dX7_init_80 : decode cX7_init 80 = .ok (.iconst 0, 1) := by decide +kernel
theorem dX7_init_81 : decode cX7_init 81 = .ok (.istore_n 1, 1) := by decide +kernel
theorem dX7_init_82 : decode cX7_init 82 = .ok (.iload_n 1, 1) := by decide +kernel
theorem dX7_init_83 : decode cX7_init 83 = .ok (.aload_n 0, 1) := by decide +kernel
theorem dX7_init_84 : decode cX7_init 84 = .ok (.getfield 16, 3) := by decide +kernel
theorem dX7_init_87 : decode cX7_init 87 = .ok (.arraylength, 1) := by decide +kernel
theorem dX7_init_88 : decode cX7_init 88 = .ok (.if_icmp .ge 22, 3) := by decide +kernel
theorem dX7_init_91 : decode cX7_init 91 = .ok (.aload_n 0, 1) := by decide +kernel
theorem dX7_init_92 : decode cX7_init 92 = .ok (.getfield 16, 3) := by decide +kernel
theorem dX7_init_95 : decode cX7_init 95 = .ok (.iload_n 1, 1) := by decide +kernel
theorem dX7_init_96 : decode cX7_init 96 = .ok (.new 9, 3) := by decide +kernel
theorem dX7_init_99 : decode cX7_init 99 = .ok (.dup, 1) := by decide +kernel
theorem dX7_init_100 : decode cX7_init 100 = .ok (.invokespecial 11, 3) := by decide +kernel
theorem dX7_init_103 : decode cX7_init 103 = .ok (.aastore, 1) := by decide +kernel
theorem dX7_init_104 : decode cX7_init 104 = .ok (.iinc 1 1, 3) := by decide +kernel
theorem dX7_init_107 : decode cX7_init 107 = .ok (.goto (-25), 3) := by decide +kernel
theorem dX7_init_110 : decode cX7_init 110 = .ok (.return_, 1) := by decide +kernel
theorem dX7_set_0 : decode cX7_set 0 = .ok (.iload_n 1, 1) := by decide +kernel
theorem dX7_set_1 : decode cX7_set 1 = .ok (.iconst 0, 1) := by decide +kernel
theorem dX7_set_2 : decode cX7_set 2 = .ok (.bipush 7, 2) := by decide +kernel
theorem dX7_set_4 : decode cX7_set 4 = .ok (.invokestatic 56, 3) := by decide +kernel
theorem dX7_set_7 : decode cX7_set 7 = .ok (.ifCond .ne 6, 3) := by decide +kernel
theorem dX7_set_10 : decode cX7_set 10 = .ok (.ldc 60, 2) := by decide +kernel
theorem dX7_set_12 : decode cX7_set 12 = .ok (.ireturn, 1) := by decide +kernel
theorem dX7_set_13 : decode cX7_set 13 = .ok (.iload_n 2, 1) := by decide +kernel
theorem dX7_set_14 : decode cX7_set 14 = .ok (.getstatic 61, 3) := by decide +kernel
theorem dX7_set_17 : decode cX7_set 17 = .ok (.iload_n 1, 1) := by decide +kernel
theorem dX7_set_18 : decode cX7_set 18 = .ok (.invokestatic 64, 3) := by decide +kernel
theorem dX7_set_21 : decode cX7_set 21 = .ok (.getstatic 68, 3) := by decide +kernel
theorem dX7_set_24 : decode cX7_set 24 = .ok (.iload_n 1, 1) := by decide +kernel
theorem dX7_set_25 : decode cX7_set 25 = .ok (.invokestatic 64, 3) := by decide +kernel
theorem dX7_set_28 : decode cX7_set 28 = .ok (.invokestatic 56, 3) := by decide +kernel
theorem dX7_set_31 : decode cX7_set 31 = .ok (.ifCond .ne 6, 3) := by decide +kernel
theorem dX7_set_34 : decode cX7_set 34 = .ok (.ldc 60, 2) := by decide +kernel
theorem dX7_set_36 : decode cX7_set 36 = .ok (.ireturn, 1) := by decide +kernel
theorem dX7_set_37 : decode cX7_set 37 = .ok (.iload_n 1, 1) := by decide +kernel
theorem dX7_set_38 : decode cX7_set 38 = .ok (.iconst 2, 1) := by decide +kernel
theorem dX7_set_39 : decode cX7_set 39 = .ok (.if_icmp .gt 16, 3) := by decide +kernel
theorem dX7_set_42 : decode cX7_set 42 = .ok (.aload_n 0, 1) := by decide +kernel
theorem dX7_set_43 : decode cX7_set 43 = .ok (.getfield 12, 3) := by decide +kernel
theorem dX7_set_46 : decode cX7_set 46 = .ok (.getfield 71, 3) := by decide +kernel
theorem dX7_set_49 : decode cX7_set 49 = .ok (.ifCond .le 6, 3) := by decide +kernel
theorem dX7_set_52 : decode cX7_set 52 = .ok (.ldc 74, 2) := by decide +kernel
theorem dX7_set_54 : decode cX7_set 54 = .ok (.ireturn, 1) := by decide +kernel
theorem dX7_set_55 : decode cX7_set 55 = .ok (.aload_n 0, 1) := by decide +kernel
theorem dX7_set_56 : decode cX7_set 56 = .ok (.invokevirtual 75, 3) := by decide +kernel
theorem dX7_set_59 : decode cX7_set 59 = .ok (.aload_n 0, 1) := by decide +kernel
theorem dX7_set_60 : decode cX7_set 60 = .ok (.getfield 12, 3) := by decide +kernel
theorem dX7_set_63 : decode cX7_set 63 = .ok (.iload_n 1, 1) := by decide +kernel
theorem dX7_set_64 : decode cX7_set 64 = .ok (.invokevirtual 78, 3) := by decide +kernel
theorem dX7_set_67 : decode cX7_set 67 = .ok (.istore_n 3, 1) := by decide +kernel
theorem dX7_set_68 : decode cX7_set 68 = .ok (.aload_n 0, 1) := by decide +kernel
theorem dX7_set_69 : decode cX7_set 69 = .ok (.getfield 12, 3) := by decide +kernel
theorem dX7_set_72 : decode cX7_set 72 = .ok (.iload_n 1, 1) := by decide +kernel
theorem dX7_set_73 : decode cX7_set 73 = .ok (.iload_n 2, 1) := by decide +kernel
theorem dX7_set_74 : decode cX7_set 74 = .ok (.invokevirtual 82, 3) := by decide +kernel
theorem dX7_set_77 : decode cX7_set 77 = .ok (.iload_n 3, 1) := by decide +kernel
theorem dX7_set_78 : decode cX7_set 78 = .ok (.ireturn, 1) := by decide +kernel
theorem dX7_thing_0 : decode cX7_thing 0 = .ok (.iload_n 1, 1) := by decide +kernel
theorem dX7_thing_1 : decode cX7_thing 1 = .ok (.iload_n 2, 1) := by decide +kernel
theorem dX7_thing_2 : decode cX7_thing 2 = .ok (.iload_n 3, 1) := by decide +kernel
theorem dX7_thing_3 : decode cX7_thing 3 = .ok (.iload 4, 2) := by decide +kernel
theorem dX7_thing_5 : decode cX7_thing 5 = .ok (.iload 5, 2) := by decide +kernel
theorem dX7_thing_7 : decode cX7_thing 7 = .ok (.iload 6, 2) := by decide +kernel
theorem dX7_thing_9 : decode cX7_thing 9 = .ok (.invokestatic 86, 3) := by decide +kernel
theorem dX7_thing_12 : decode cX7_thing 12 = .ok (.ifCond .lt 6, 3) := by decide +kernel
theorem dX7_thing_15 : decode cX7_thing 15 = .ok (.ldc 60, 2) := by decide +kernel
theorem dX7_thing_17 : decode cX7_thing 17 = .ok (.ireturn, 1) := by decide +kernel
theorem dX7_thing_18 : decode cX7_thing 18 = .ok (.aload_n 0, 1) := by decide +kernel
theorem dX7_thing_19 : decode cX7_thing 19 = .ok (.getfield 12, 3) := by decide +kernel
theorem dX7_thing_22 : decode cX7_thing 22 = .ok (.getfield 90, 3) := by decide +kernel
theorem dX7_thing_25 : decode cX7_thing 25 = .ok (.iconst 4, 1) := by decide +kernel
theorem dX7_thing_26 : decode cX7_thing 26 = .ok (.if_icmp .lt 6, 3) := by decide +kernel
theorem dX7_thing_29 : decode cX7_thing 29 = .ok (.ldc 93, 2) := by decide +kernel
theorem dX7_thing_31 : decode cX7_thing 31 = .ok (.ireturn, 1) := by decide +kernel
theorem dX7_thing_32 : decode cX7_thing 32 = .ok (.aload_n 0, 1) := by decide +kernel
theorem dX7_thing_33 : decode cX7_thing 33 = .ok (.invokevirtual 75, 3) := by decide +kernel
theorem dX7_thing_36 : decode cX7_thing 36 = .ok (.aload_n 0, 1) := by decide +kernel
theorem dX7_thing_37 : decode cX7_thing 37 = .ok (.getfield 12, 3) := by decide +kernel
theorem dX7_thing_40 : decode cX7_thing 40 = .ok (.iload_n 1, 1) := by decide +kernel
theorem dX7_thing_41 : decode cX7_thing 41 = .ok (.iload_n 2, 1) := by decide +kernel
theorem dX7_thing_42 : decode cX7_thing 42 = .ok (.iload_n 3, 1) := by decide +kernel
theorem dX7_thing_43 : decode cX7_thing 43 = .ok (.iload 4, 2) := by decide +kernel
theorem dX7_thing_45 : decode cX7_thing 45 = .ok (.iload 5, 2) := by decide +kernel
theorem dX7_thing_47 : decode cX7_thing 47 = .ok (.iload 6, 2) := by decide +kernel
theorem dX7_thing_49 : decode cX7_thing 49 = .ok (.invokevirtual 94, 3) := by decide +kernel
theorem dX7_thing_52 : decode cX7_thing 52 = .ok (.aload_n 0, 1) := by decide +kernel
theorem dX7_thing_53 : decode cX7_thing 53 = .ok (.getfield 12, 3) := by decide +kernel
theorem dX7_thing_56 : decode cX7_thing 56 = .ok (.getfield 90, 3) := by decide +kernel
theorem dX7_thing_59 : decode cX7_thing 59 = .ok (.iconst 1, 1) := by decide +kernel
theorem dX7_thing_60 : decode cX7_thing 60 = .ok (.isub, 1) := by decide +kernel
theorem dX7_thing_61 : decode cX7_thing 61 = .ok (.ireturn, 1) := by decide +kernel
theorem dX7_turn_0 : decode cX7_turn 0 = .ok (.aload_n 0, 1) := by decide +kernel
theorem dX7_turn_1 : decode cX7_turn 1 = .ok (.getfield 12, 3) := by decide +kernel
theorem dX7_turn_4 : decode cX7_turn 4 = .ok (.iload_n 1, 1) := by decide +kernel
theorem dX7_turn_5 : decode cX7_turn 5 = .ok (.invokevirtual 98, 3) := by decide +kernel
theorem dX7_turn_8 : decode cX7_turn 8 = .ok (.astore_n 3, 1) := by decide +kernel
theorem dX7_turn_9 : decode cX7_turn 9 = .ok (.aload_n 3, 1) := by decide +kernel
theorem dX7_turn_10 : decode cX7_turn 10 = .ok (.ifnull 16, 3) := by decide +kernel
theorem dX7_turn_13 : decode cX7_turn 13 = .ok (.iload_n 2, 1) := by decide +kernel
theorem dX7_turn_14 : decode cX7_turn 14 = .ok (.sipush (-200), 3) := by decide +kernel
theorem dX7_turn_17 : decode cX7_turn 17 = .ok (.sipush 200, 3) := by decide +kernel
theorem dX7_turn_20 : decode cX7_turn 20 = .ok (.invokestatic 56, 3) := by decide +kernel
theorem dX7_turn_23 : decode cX7_turn 23 = .ok (.ifCond .ne 6, 3) := by decide +kernel
theorem dX7_turn_26 : decode cX7_turn 26 = .ok (.ldc 60, 2) := by decide +kernel
theorem dX7_turn_28 : decode cX7_turn 28 = .ok (.ireturn, 1) := by decide +kernel
theorem dX7_turn_29 : decode cX7_turn 29 = .ok (.aload_n 0, 1) := by decide +kernel
theorem dX7_turn_30 : decode cX7_turn 30 = .ok (.invokevirtual 75, 3) := by decide +kernel
theorem dX7_turn_33 : decode cX7_turn 33 = .ok (.aload_n 3, 1) := by decide +kernel
theorem dX7_turn_34 : decode cX7_turn 34 = .ok (.getfield 102, 3) := by decide +kernel
theorem dX7_turn_37 : decode cX7_turn 37 = .ok (.istore 4, 2) := by decide +kernel
theorem dX7_turn_39 : decode cX7_turn 39 = .ok (.aload_n 3, 1) := by decide +kernel
theorem dX7_turn_40 : decode cX7_turn 40 = .ok (.iload_n 2, 1) := by decide +kernel
theorem dX7_turn_41 : decode cX7_turn 41 = .ok (.aload_n 0, 1) := by decide +kernel
theorem dX7_turn_42 : decode cX7_turn 42 = .ok (.getfield 12, 3) := by decide +kernel
theorem dX7_turn_45 : decode cX7_turn 45 = .ok (.getfield 107, 3) := by decide +kernel
theorem dX7_turn_48 : decode cX7_turn 48 = .ok (.invokevirtual 110, 3) := by decide +kernel
theorem dX7_turn_51 : decode cX7_turn 51 = .ok (.iload 4, 2) := by decide +kernel
theorem dX7_turn_53 : decode cX7_turn 53 = .ok (.ireturn, 1) := by decide +kernel
theorem dX7_thingOf_0 : decode cX7_thingOf 0 = .ok (.aload_n 0, 1) := by decide +kernel
theorem dX7_thingOf_1 : decode cX7_thingOf 1 = .ok (.getfield 12, 3) := by decide +kernel
theorem dX7_thingOf_4 : decode cX7_thingOf 4 = .ok (.iload_n 1, 1) := by decide +kernel
theorem dX7_thingOf_5 : decode cX7_thingOf 5 = .ok (.invokevirtual 98, 3) := by decide +kernel
theorem dX7_thingOf_8 : decode cX7_thingOf 8 = .ok (.astore_n 3, 1) := by decide +kernel
theorem dX7_thingOf_9 : decode cX7_thingOf 9 = .ok (.aload_n 3, 1) := by decide +kernel
theorem dX7_thingOf_10 : decode cX7_thingOf 10 = .ok (.ifnull 13, 3) := by decide +kernel
theorem dX7_thingOf_13 : decode cX7_thingOf 13 = .ok (.iload_n 2, 1) := by decide +kernel
theorem dX7_thingOf_14 : decode cX7_thingOf 14 = .ok (.iconst 0, 1) := by decide +kernel
theorem dX7_thingOf_15 : decode cX7_thingOf 15 = .ok (.bipush 6, 2) := by decide +kernel
theorem dX7_thingOf_17 : decode cX7_thingOf 17 = .ok (.invokestatic 56, 3) := by decide +kernel
theorem dX7_thingOf_20 : decode cX7_thingOf 20 = .ok (.ifCond .ne 6, 3) := by decide +kernel
theorem dX7_thingOf_23 : decode cX7_thingOf 23 = .ok (.ldc 60, 2) := by decide +kernel
theorem dX7_thingOf_25 : decode cX7_thingOf 25 = .ok (.ireturn, 1) := by decide +kernel
theorem dX7_thingOf_26 : decode cX7_thingOf 26 = .ok (.iload_n 2, 1) := by decide +kernel
theorem dX7_thingOf_27 : decode cX7_thingOf 27 = .ok (.bipush 6, 2) := by decide +kernel
theorem dX7_thingOf_29 : decode cX7_thingOf 29 = .ok (.if_icmp .ne 17, 3) := by decide +kernel
theorem dX7_thingOf_32 : decode cX7_thingOf 32 = .ok (.aload_n 3, 1) := by decide +kernel
theorem dX7_thingOf_33 : decode cX7_thingOf 33 = .ok (.aload_n 0, 1) := by decide +kernel
theorem dX7_thingOf_34 : decode cX7_thingOf 34 = .ok (.getfield 12, 3) := by decide +kernel
theorem dX7_thingOf_37 : decode cX7_thingOf 37 = .ok (.getfield 107, 3) := by decide +kernel
theorem dX7_thingOf_40 : decode cX7_thingOf 40 = .ok (.invokevirtual 113, 3) := by decide +kernel
theorem dX7_thingOf_43 : decode cX7_thingOf 43 = .ok (.goto 8, 3) := by decide +kernel
theorem dX7_thingOf_46 : decode cX7_thingOf 46 = .ok (.aload_n 3, 1) := by decide +kernel
theorem dX7_thingOf_47 : decode cX7_thingOf 47 = .ok (.iload_n 2, 1) := by decide +kernel
theorem dX7_thingOf_48 : decode cX7_thingOf 48 = .ok (.invokevirtual 116, 3) := by decide +kernel
theorem dX7_thingOf_51 : decode cX7_thingOf 51 = .ok (.ireturn, 1) := by decide +kernel
theorem dX7_blind_0 : decode cX7_blind 0 = .ok (.iload_n 1, 1) := by decide +kernel
theorem dX7_blind_1 : decode cX7_blind 1 = .ok (.iconst 0, 1) := by decide +kernel
theorem dX7_blind_2 : decode cX7_blind 2 = .ok (.bipush 9, 2) := by decide +kernel
theorem dX7_blind_4 : decode cX7_blind 4 = .ok (.invokestatic 56, 3) := by decide +kernel
theorem dX7_blind_7 : decode cX7_blind 7 = .ok (.ifCond .eq 12, 3) := by decide +kernel
theorem dX7_blind_10 : decode cX7_blind 10 = .ok (.iload_n 2, 1) := by decide +kernel
theorem dX7_blind_11 : decode cX7_blind 11 = .ok (.iconst 0, 1) := by decide +kernel
theorem dX7_blind_12 : decode cX7_blind 12 = .ok (.iconst 1, 1) := by decide +kernel
theorem dX7_blind_13 : decode cX7_blind 13 = .ok (.invokestatic 56, 3) := by decide +kernel
theorem dX7_blind_16 : decode cX7_blind 16 = .ok (.ifCond .ne 6, 3) := by decide +kernel
theorem dX7_blind_19 : decode cX7_blind 19 = .ok (.ldc 60, 2) := by decide +kernel
theorem dX7_blind_21 : decode cX7_blind 21 = .ok (.ireturn, 1) := by decide +kernel
theorem dX7_blind_22 : decode cX7_blind 22 = .ok (.aload_n 0, 1) := by decide +kernel
theorem dX7_blind_23 : decode cX7_blind 23 = .ok (.getfield 12, 3) := by decide +kernel
theorem dX7_blind_26 : decode cX7_blind 26 = .ok (.getfield 119, 3) := by decide +kernel
theorem dX7_blind_29 : decode cX7_blind 29 = .ok (.iload_n 1, 1) := by decide +kernel
theorem dX7_blind_30 : decode cX7_blind 30 = .ok (.invokestatic 122, 3) := by decide +kernel
theorem dX7_blind_33 : decode cX7_blind 33 = .ok (.iload_n 2, 1) := by decide +kernel
theorem dX7_blind_34 : decode cX7_blind 34 = .ok (.iconst 1, 1) := by decide +kernel
theorem dX7_blind_35 : decode cX7_blind 35 = .ok (.if_icmp .ne 7, 3) := by decide +kernel
theorem dX7_blind_38 : decode cX7_blind 38 = .ok (.iconst 1, 1) := by decide +kernel
theorem dX7_blind_39 : decode cX7_blind 39 = .ok (.goto 4, 3) := by decide +kernel
theorem dX7_blind_42 : decode cX7_blind 42 = .ok (.iconst 0, 1) := by decide +kernel
theorem dX7_blind_43 : decode cX7_blind 43 = .ok (.if_icmp .ne 6, 3) := by decide +kernel
theorem dX7_blind_46 : decode cX7_blind 46 = .ok (.ldc 74, 2) := by decide +kernel
theorem dX7_blind_48 : decode cX7_blind 48 = .ok (.ireturn, 1) := by decide +kernel
theorem dX7_blind_49 : decode cX7_blind 49 = .ok (.aload_n 0, 1) := by decide +kernel
theorem dX7_blind_50 : decode cX7_blind 50 = .ok (.invokevirtual 75, 3) := by decide +kernel
theorem dX7_blind_53 : decode cX7_blind 53 = .ok (.aload_n 0, 1) := by decide +kernel
theorem dX7_blind_54 : decode cX7_blind 54 = .ok (.getfield 12, 3) := by decide +kernel
theorem dX7_blind_57 : decode cX7_blind 57 = .ok (.dup, 1) := by decide +kernel
theorem dX7_blind_58 : decode cX7_blind 58 = .ok (.getfield 119, 3) := by decide +kernel
theorem dX7_blind_61 : decode cX7_blind 61 = .ok (.iconst 1, 1) := by decide +kernel
theorem dX7_blind_62 : decode cX7_blind 62 = .ok (.iload_n 1, 1) := by decide +kernel
theorem dX7_blind_63 : decode cX7_blind 63 = .ok (.ishl, 1) := by decide +kernel
theorem dX7_blind_64 : decode cX7_blind 64 = .ok (.ixor, 1) := by decide +kernel
theorem dX7_blind_65 : decode cX7_blind 65 = .ok (.putfield 119, 3) := by decide +kernel
theorem dX7_blind_68 : decode cX7_blind 68 = .ok (.aload_n 0, 1) := by decide +kernel
theorem dX7_blind_69 : decode cX7_blind 69 = .ok (.getfield 12, 3) := by decide +kernel
theorem dX7_blind_72 : decode cX7_blind 72 = .ok (.getfield 119, 3) := by decide +kernel
theorem dX7_blind_75 : decode cX7_blind 75 = .ok (.invokestatic 126, 3) := by decide +kernel
theorem dX7_blind_78 : decode cX7_blind 78 = .ok (.ireturn, 1) := by decide +kernel
theorem dX7_shows_0 : decode cX7_shows 0 = .ok (.aload_n 0, 1) := by decide +kernel
theorem dX7_shows_1 : decode cX7_shows 1 = .ok (.iload_n 1, 1) := by decide +kernel
theorem dX7_shows_2 : decode cX7_shows 2 = .ok (.iload_n 2, 1) := by decide +kernel
theorem dX7_shows_3 : decode cX7_shows 3 = .ok (.invokevirtual 131, 3) := by decide +kernel
theorem dX7_shows_6 : decode cX7_shows 6 = .ok (.ifCond .eq 14, 3) := by decide +kernel
theorem dX7_shows_9 : decode cX7_shows 9 = .ok (.iload_n 3, 1) := by decide +kernel
theorem dX7_shows_10 : decode cX7_shows 10 = .ok (.iconst 0, 1) := by decide +kernel
theorem dX7_shows_11 : decode cX7_shows 11 = .ok (.sipush 20000, 3) := by decide +kernel
theorem dX7_shows_14 : decode cX7_shows 14 = .ok (.invokestatic 56, 3) := by decide +kernel
theorem dX7_shows_17 : decode cX7_shows 17 = .ok (.ifCond .ne 6, 3) := by decide +kernel
theorem dX7_shows_20 : decode cX7_shows 20 = .ok (.ldc 60, 2) := by decide +kernel
theorem dX7_shows_22 : decode cX7_shows 22 = .ok (.ireturn, 1) := by decide +kernel
theorem dX7_shows_23 : decode cX7_shows 23 = .ok (.aload_n 0, 1) := by decide +kernel
theorem dX7_shows_24 : decode cX7_shows 24 = .ok (.getfield 12, 3) := by decide +kernel
theorem dX7_shows_27 : decode cX7_shows 27 = .ok (.iload_n 1, 1) := by decide +kernel
theorem dX7_shows_28 : decode cX7_shows 28 = .ok (.iload_n 3, 1) := by decide +kernel
theorem dX7_shows_29 : decode cX7_shows 29 = .ok (.iconst (-1), 1) := by decide +kernel
theorem dX7_shows_30 : decode cX7_shows 30 = .ok (.iconst 0, 1) := by decide +kernel
theorem dX7_shows_31 : decode cX7_shows 31 = .ok (.aload_n 0, 1) := by decide +kernel
theorem dX7_shows_32 : decode cX7_shows 32 = .ok (.getfield 52, 3) := by decide +kernel
theorem dX7_shows_35 : decode cX7_shows 35 = .ok (.invokevirtual 134, 3) := by decide +kernel
theorem dX7_shows_38 : decode cX7_shows 38 = .ok (.aload_n 0, 1) := by decide +kernel
theorem dX7_shows_39 : decode cX7_shows 39 = .ok (.getfield 52, 3) := by decide +kernel
theorem dX7_shows_42 : decode cX7_shows 42 = .ok (.iload_n 2, 1) := by decide +kernel
theorem dX7_shows_43 : decode cX7_shows 43 = .ok (.invokestatic 64, 3) := by decide +kernel
theorem dX7_shows_46 : decode cX7_shows 46 = .ok (.aload_n 0, 1) := by decide +kernel
theorem dX7_shows_47 : decode cX7_shows 47 = .ok (.getfield 12, 3) := by decide +kernel
theorem dX7_shows_50 : decode cX7_shows 50 = .ok (.iload_n 3, 1) := by decide +kernel
theorem dX7_shows_51 : decode cX7_shows 51 = .ok (.invokevirtual 138, 3) := by decide +kernel
theorem dX7_shows_54 : decode cX7_shows 54 = .ok (.invokestatic 141, 3) := by decide +kernel
theorem dX7_shows_57 : decode cX7_shows 57 = .ok (.ireturn, 1) := by decide +kernel
theorem dX7_shoot_0 : decode cX7_shoot 0 = .ok (.aload_n 0, 1) := by decide +kernel
theorem dX7_shoot_1 : decode cX7_shoot 1 = .ok (.invokevirtual 75, 3) := by decide +kernel
theorem dX7_shoot_4 : decode cX7_shoot 4 = .ok (.aload_n 0, 1) := by decide +kernel
theorem dX7_shoot_5 : decode cX7_shoot 5 = .ok (.getfield 12, 3) := by decide +kernel
theorem dX7_shoot_8 : decode cX7_shoot 8 = .ok (.aload_n 0, 1) := by decide +kernel
theorem dX7_shoot_9 : decode cX7_shoot 9 = .ok (.getfield 52, 3) := by decide +kernel
theorem dX7_shoot_12 : decode cX7_shoot 12 = .ok (.invokevirtual 145, 3) := by decide +kernel
theorem dX7_shoot_15 : decode cX7_shoot 15 = .ok (.aload_n 0, 1) := by decide +kernel
theorem dX7_shoot_16 : decode cX7_shoot 16 = .ok (.getfield 12, 3) := by decide +kernel
theorem dX7_shoot_19 : decode cX7_shoot 19 = .ok (.getfield 71, 3) := by decide +kernel
theorem dX7_shoot_22 : decode cX7_shoot 22 = .ok (.ireturn, 1) := by decide +kernel
theorem dX7_forget_0 : decode cX7_forget 0 = .ok (.aload_n 0, 1) := by decide +kernel
theorem dX7_forget_1 : decode cX7_forget 1 = .ok (.getfield 12, 3) := by decide +kernel
theorem dX7_forget_4 : decode cX7_forget 4 = .ok (.iload_n 1, 1) := by decide +kernel
theorem dX7_forget_5 : decode cX7_forget 5 = .ok (.invokevirtual 149, 3) := by decide +kernel
theorem dX7_forget_8 : decode cX7_forget 8 = .ok (.ifnonnull 6, 3) := by decide +kernel
theorem dX7_forget_11 : decode cX7_forget 11 = .ok (.ldc 60, 2) := by decide +kernel
theorem dX7_forget_13 : decode cX7_forget 13 = .ok (.ireturn, 1) := by decide +kernel
theorem dX7_forget_14 : decode cX7_forget 14 = .ok (.aload_n 0, 1) := by decide +kernel
theorem dX7_forget_15 : decode cX7_forget 15 = .ok (.invokevirtual 75, 3) := by decide +kernel
theorem dX7_forget_18 : decode cX7_forget 18 = .ok (.aload_n 0, 1) := by decide +kernel
theorem dX7_forget_19 : decode cX7_forget 19 = .ok (.getfield 12, 3) := by decide +kernel
theorem dX7_forget_22 : decode cX7_forget 22 = .ok (.iload_n 1, 1) := by decide +kernel
theorem dX7_forget_23 : decode cX7_forget 23 = .ok (.invokevirtual 153, 3) := by decide +kernel
theorem dX7_forget_26 : decode cX7_forget 26 = .ok (.aload_n 0, 1) := by decide +kernel
theorem dX7_forget_27 : decode cX7_forget 27 = .ok (.getfield 12, 3) := by decide +kernel
theorem dX7_forget_30 : decode cX7_forget 30 = .ok (.getfield 71, 3) := by decide +kernel
theorem dX7_forget_33 : decode cX7_forget 33 = .ok (.ireturn, 1) := by decide +kernel
theorem dX7_frameOf_0 : decode cX7_frameOf 0 = .ok (.aload_n 0, 1) := by decide +kernel
theorem dX7_frameOf_1 : decode cX7_frameOf 1 = .ok (.getfield 12, 3) := by decide +kernel
theorem dX7_frameOf_4 : decode cX7_frameOf 4 = .ok (.iload_n 1, 1) := by decide +kernel
theorem dX7_frameOf_5 : decode cX7_frameOf 5 = .ok (.invokevirtual 149, 3) := by decide +kernel
theorem dX7_frameOf_8 : decode cX7_frameOf 8 = .ok (.astore_n 3, 1) := by decide +kernel
theorem dX7_frameOf_9 : decode cX7_frameOf 9 = .ok (.aload_n 3, 1) := by decide +kernel
theorem dX7_frameOf_10 : decode cX7_frameOf 10 = .ok (.ifnull 12, 3) := by decide +kernel
theorem dX7_frameOf_13 : decode cX7_frameOf 13 = .ok (.iload_n 2, 1) := by decide +kernel
theorem dX7_frameOf_14 : decode cX7_frameOf 14 = .ok (.iconst 0, 1) := by decide +kernel
theorem dX7_frameOf_15 : decode cX7_frameOf 15 = .ok (.iconst 2, 1) := by decide +kernel
theorem dX7_frameOf_16 : decode cX7_frameOf 16 = .ok (.invokestatic 56, 3) := by decide +kernel
theorem dX7_frameOf_19 : decode cX7_frameOf 19 = .ok (.ifCond .ne 6, 3) := by decide +kernel
theorem dX7_frameOf_22 : decode cX7_frameOf 22 = .ok (.ldc 60, 2) := by decide +kernel
theorem dX7_frameOf_24 : decode cX7_frameOf 24 = .ok (.ireturn, 1) := by decide +kernel
theorem dX7_frameOf_25 : decode cX7_frameOf 25 = .ok (.iload_n 2, 1) := by decide +kernel
theorem dX7_frameOf_26 : decode cX7_frameOf 26 = .ok (.ifCond .ne 8, 3) := by decide +kernel
theorem dX7_frameOf_29 : decode cX7_frameOf 29 = .ok (.aload_n 3, 1) := by decide +kernel
theorem dX7_frameOf_30 : decode cX7_frameOf 30 = .ok (.getfield 157, 3) := by decide +kernel
theorem dX7_frameOf_33 : decode cX7_frameOf 33 = .ok (.ireturn, 1) := by decide +kernel
theorem dX7_frameOf_34 : decode cX7_frameOf 34 = .ok (.iload_n 2, 1) := by decide +kernel
theorem dX7_frameOf_35 : decode cX7_frameOf 35 = .ok (.iconst 1, 1) := by decide +kernel
theorem dX7_frameOf_36 : decode cX7_frameOf 36 = .ok (.if_icmp .ne 10, 3) := by decide +kernel
theorem dX7_frameOf_39 : decode cX7_frameOf 39 = .ok (.aload_n 3, 1) := by decide +kernel
theorem dX7_frameOf_40 : decode cX7_frameOf 40 = .ok (.getfield 158, 3) := by decide +kernel
theorem dX7_frameOf_43 : decode cX7_frameOf 43 = .ok (.goto 8, 3) := by decide +kernel
theorem dX7_frameOf_46 : decode cX7_frameOf 46 = .ok (.aload_n 0, 1) := by decide +kernel
theorem dX7_frameOf_47 : decode cX7_frameOf 47 = .ok (.aload_n 3, 1) := by decide +kernel
theorem dX7_frameOf_48 : decode cX7_frameOf 48 = .ok (.invokevirtual 159, 3) := by decide +kernel
theorem dX7_frameOf_51 : decode cX7_frameOf 51 = .ok (.ireturn, 1) := by decide +kernel
theorem dX7_pixel_0 : decode cX7_pixel 0 = .ok (.aload_n 0, 1) := by decide +kernel
theorem dX7_pixel_1 : decode cX7_pixel 1 = .ok (.getfield 12, 3) := by decide +kernel
theorem dX7_pixel_4 : decode cX7_pixel 4 = .ok (.iload_n 1, 1) := by decide +kernel
theorem dX7_pixel_5 : decode cX7_pixel 5 = .ok (.invokevirtual 149, 3) := by decide +kernel
theorem dX7_pixel_8 : decode cX7_pixel 8 = .ok (.astore 4, 2) := by decide +kernel
theorem dX7_pixel_10 : decode cX7_pixel 10 = .ok (.aload 4, 2) := by decide +kernel
theorem dX7_pixel_12 : decode cX7_pixel 12 = .ok (.ifnull 12, 3) := by decide +kernel
theorem dX7_pixel_15 : decode cX7_pixel 15 = .ok (.aload_n 0, 1) := by decide +kernel
theorem dX7_pixel_16 : decode cX7_pixel 16 = .ok (.iload_n 2, 1) := by decide +kernel
theorem dX7_pixel_17 : decode cX7_pixel 17 = .ok (.iload_n 3, 1) := by decide +kernel
theorem dX7_pixel_18 : decode cX7_pixel 18 = .ok (.invokevirtual 131, 3) := by decide +kernel
theorem dX7_pixel_21 : decode cX7_pixel 21 = .ok (.ifCond .ne 6, 3) := by decide +kernel
theorem dX7_pixel_24 : decode cX7_pixel 24 = .ok (.ldc 60, 2) := by decide +kernel
theorem dX7_pixel_26 : decode cX7_pixel 26 = .ok (.ireturn, 1) := by decide +kernel
theorem dX7_pixel_27 : decode cX7_pixel 27 = .ok (.aload 4, 2) := by decide +kernel
theorem dX7_pixel_29 : decode cX7_pixel 29 = .ok (.getfield 158, 3) := by decide +kernel
theorem dX7_pixel_32 : decode cX7_pixel 32 = .ok (.iload_n 2, 1) := by decide +kernel
theorem dX7_pixel_33 : decode cX7_pixel 33 = .ok (.invokestatic 122, 3) := by decide +kernel
theorem dX7_pixel_36 : decode cX7_pixel 36 = .ok (.ifCond .eq 8, 3) := by decide +kernel
theorem dX7_pixel_39 : decode cX7_pixel 39 = .ok (.ldc 163, 2) := by decide +kernel
theorem dX7_pixel_41 : decode cX7_pixel 41 = .ok (.goto 10, 3) := by decide +kernel
theorem dX7_pixel_44 : decode cX7_pixel 44 = .ok (.aload 4, 2) := by decide +kernel
theorem dX7_pixel_46 : decode cX7_pixel 46 = .ok (.iload_n 2, 1) := by decide +kernel
theorem dX7_pixel_47 : decode cX7_pixel 47 = .ok (.iload_n 3, 1) := by decide +kernel
theorem dX7_pixel_48 : decode cX7_pixel 48 = .ok (.invokevirtual 164, 3) := by decide +kernel
theorem dX7_pixel_51 : decode cX7_pixel 51 = .ok (.ireturn, 1) := by decide +kernel
theorem dX7_edges_0 : decode cX7_edges 0 = .ok (.aload_n 0, 1) := by decide +kernel
theorem dX7_edges_1 : decode cX7_edges 1 = .ok (.getfield 12, 3) := by decide +kernel
theorem dX7_edges_4 : decode cX7_edges 4 = .ok (.iload_n 1, 1) := by decide +kernel
theorem dX7_edges_5 : decode cX7_edges 5 = .ok (.invokevirtual 149, 3) := by decide +kernel
theorem dX7_edges_8 : decode cX7_edges 8 = .ok (.astore_n 3, 1) := by decide +kernel
theorem dX7_edges_9 : decode cX7_edges 9 = .ok (.aload_n 3, 1) := by decide +kernel
theorem dX7_edges_10 : decode cX7_edges 10 = .ok (.ifnull 12, 3) := by decide +kernel
theorem dX7_edges_13 : decode cX7_edges 13 = .ok (.aload_n 0, 1) := by decide +kernel
theorem dX7_edges_14 : decode cX7_edges 14 = .ok (.iload_n 2, 1) := by decide +kernel
theorem dX7_edges_15 : decode cX7_edges 15 = .ok (.iconst 0, 1) := by decide +kernel
theorem dX7_edges_16 : decode cX7_edges 16 = .ok (.invokevirtual 131, 3) := by decide +kernel
theorem dX7_edges_19 : decode cX7_edges 19 = .ok (.ifCond .ne 6, 3) := by decide +kernel
theorem dX7_edges_22 : decode cX7_edges 22 = .ok (.ldc 60, 2) := by decide +kernel
theorem dX7_edges_24 : decode cX7_edges 24 = .ok (.ireturn, 1) := by decide +kernel
theorem dX7_edges_25 : decode cX7_edges 25 = .ok (.aload_n 3, 1) := by decide +kernel
theorem dX7_edges_26 : decode cX7_edges 26 = .ok (.getfield 158, 3) := by decide +kernel
theorem dX7_edges_29 : decode cX7_edges 29 = .ok (.iload_n 2, 1) := by decide +kernel
theorem dX7_edges_30 : decode cX7_edges 30 = .ok (.invokestatic 122, 3) := by decide +kernel
theorem dX7_edges_33 : decode cX7_edges 33 = .ok (.ifCond .eq 8, 3) := by decide +kernel
theorem dX7_edges_36 : decode cX7_edges 36 = .ok (.ldc 163, 2) := by decide +kernel
theorem dX7_edges_38 : decode cX7_edges 38 = .ok (.goto 12, 3) := by decide +kernel
theorem dX7_edges_41 : decode cX7_edges 41 = .ok (.aload_n 0, 1) := by decide +kernel
theorem dX7_edges_42 : decode cX7_edges 42 = .ok (.getfield 12, 3) := by decide +kernel
theorem dX7_edges_45 : decode cX7_edges 45 = .ok (.aload_n 3, 1) := by decide +kernel
theorem dX7_edges_46 : decode cX7_edges 46 = .ok (.iload_n 2, 1) := by decide +kernel
theorem dX7_edges_47 : decode cX7_edges 47 = .ok (.invokevirtual 167, 3) := by decide +kernel
theorem dX7_edges_50 : decode cX7_edges 50 = .ok (.ireturn, 1) := by decide +kernel
theorem dX7_pass_0 : decode cX7_pass 0 = .ok (.iload_n 1, 1) := by decide +kernel
theorem dX7_pass_1 : decode cX7_pass 1 = .ok (.iconst 1, 1) := by decide +kernel
theorem dX7_pass_2 : decode cX7_pass 2 = .ok (.sipush 200, 3) := by decide +kernel
theorem dX7_pass_5 : decode cX7_pass 5 = .ok (.invokestatic 56, 3) := by decide +kernel
theorem dX7_pass_8 : decode cX7_pass 8 = .ok (.ifCond .ne 6, 3) := by decide +kernel
theorem dX7_pass_11 : decode cX7_pass 11 = .ok (.ldc 60, 2) := by decide +kernel
theorem dX7_pass_13 : decode cX7_pass 13 = .ok (.ireturn, 1) := by decide +kernel
theorem dX7_pass_14 : decode cX7_pass 14 = .ok (.aload_n 0, 1) := by decide +kernel
theorem dX7_pass_15 : decode cX7_pass 15 = .ok (.getfield 12, 3) := by decide +kernel
theorem dX7_pass_18 : decode cX7_pass 18 = .ok (.getfield 107, 3) := by decide +kernel
theorem dX7_pass_21 : decode cX7_pass 21 = .ok (.iload_n 1, 1) := by decide +kernel
theorem dX7_pass_22 : decode cX7_pass 22 = .ok (.iadd, 1) := by decide +kernel
theorem dX7_pass_23 : decode cX7_pass 23 = .ok (.sipush 20000, 3) := by decide +kernel
theorem dX7_pass_26 : decode cX7_pass 26 = .ok (.if_icmp .le 6, 3) := by decide +kernel
theorem dX7_pass_29 : decode cX7_pass 29 = .ok (.ldc 93, 2) := by decide +kernel
theorem dX7_pass_31 : decode cX7_pass 31 = .ok (.ireturn, 1) := by decide +kernel
theorem dX7_pass_32 : decode cX7_pass 32 = .ok (.aload_n 0, 1) := by decide +kernel
theorem dX7_pass_33 : decode cX7_pass 33 = .ok (.invokevirtual 75, 3) := by decide +kernel
theorem dX7_pass_36 : decode cX7_pass 36 = .ok (.aload_n 0, 1) := by decide +kernel
theorem dX7_pass_37 : decode cX7_pass 37 = .ok (.getfield 12, 3) := by decide +kernel
theorem dX7_pass_40 : decode cX7_pass 40 = .ok (.dup, 1) := by decide +kernel
theorem dX7_pass_41 : decode cX7_pass 41 = .ok (.getfield 107, 3) := by decide +kernel
theorem dX7_pass_44 : decode cX7_pass 44 = .ok (.iload_n 1, 1) := by decide +kernel
theorem dX7_pass_45 : decode cX7_pass 45 = .ok (.iadd, 1) := by decide +kernel
theorem dX7_pass_46 : decode cX7_pass 46 = .ok (.putfield 107, 3) := by decide +kernel
theorem dX7_pass_49 : decode cX7_pass 49 = .ok (.aload_n 0, 1) := by decide +kernel
theorem dX7_pass_50 : decode cX7_pass 50 = .ok (.getfield 12, 3) := by decide +kernel
theorem dX7_pass_53 : decode cX7_pass 53 = .ok (.getfield 107, 3) := by decide +kernel
theorem dX7_pass_56 : decode cX7_pass 56 = .ok (.ireturn, 1) := by decide +kernel
theorem dX7_vote_0 : decode cX7_vote 0 = .ok (.aload_n 0, 1) := by decide +kernel
theorem dX7_vote_1 : decode cX7_vote 1 = .ok (.iload_n 1, 1) := by decide +kernel
theorem dX7_vote_2 : decode cX7_vote 2 = .ok (.iload_n 2, 1) := by decide +kernel
theorem dX7_vote_3 : decode cX7_vote 3 = .ok (.invokevirtual 171, 3) := by decide +kernel
theorem dX7_vote_6 : decode cX7_vote 6 = .ok (.ifCond .eq 12, 3) := by decide +kernel
theorem dX7_vote_9 : decode cX7_vote 9 = .ok (.aload_n 0, 1) := by decide +kernel
theorem dX7_vote_10 : decode cX7_vote 10 = .ok (.iload_n 3, 1) := by decide +kernel
theorem dX7_vote_11 : decode cX7_vote 11 = .ok (.iconst 0, 1) := by decide +kernel
theorem dX7_vote_12 : decode cX7_vote 12 = .ok (.invokevirtual 131, 3) := by decide +kernel
theorem dX7_vote_15 : decode cX7_vote 15 = .ok (.ifCond .ne 6, 3) := by decide +kernel
theorem dX7_vote_18 : decode cX7_vote 18 = .ok (.ldc 60, 2) := by decide +kernel
theorem dX7_vote_20 : decode cX7_vote 20 = .ok (.ireturn, 1) := by decide +kernel
theorem dX7_vote_21 : decode cX7_vote 21 = .ok (.aload_n 0, 1) := by decide +kernel
theorem dX7_vote_22 : decode cX7_vote 22 = .ok (.iload_n 1, 1) := by decide +kernel
theorem dX7_vote_23 : decode cX7_vote 23 = .ok (.iload_n 2, 1) := by decide +kernel
theorem dX7_vote_24 : decode cX7_vote 24 = .ok (.invokevirtual 174, 3) := by decide +kernel
theorem dX7_vote_27 : decode cX7_vote 27 = .ok (.aload_n 0, 1) := by decide +kernel
theorem dX7_vote_28 : decode cX7_vote 28 = .ok (.getfield 34, 3) := by decide +kernel
theorem dX7_vote_31 : decode cX7_vote 31 = .ok (.iload_n 3, 1) := by decide +kernel
theorem dX7_vote_32 : decode cX7_vote 32 = .ok (.invokevirtual 177, 3) := by decide +kernel
theorem dX7_vote_35 : decode cX7_vote 35 = .ok (.ireturn, 1) := by decide +kernel
theorem dX7_shift_0 : decode cX7_shift 0 = .ok (.aload_n 0, 1) := by decide +kernel
theorem dX7_shift_1 : decode cX7_shift 1 = .ok (.iload_n 1, 1) := by decide +kernel
theorem dX7_shift_2 : decode cX7_shift 2 = .ok (.iload_n 2, 1) := by decide +kernel
theorem dX7_shift_3 : decode cX7_shift 3 = .ok (.invokevirtual 171, 3) := by decide +kernel
theorem dX7_shift_6 : decode cX7_shift 6 = .ok (.ifCond .ne 6, 3) := by decide +kernel
theorem dX7_shift_9 : decode cX7_shift 9 = .ok (.ldc 60, 2) := by decide +kernel
theorem dX7_shift_11 : decode cX7_shift 11 = .ok (.ireturn, 1) := by decide +kernel
theorem dX7_shift_12 : decode cX7_shift 12 = .ok (.aload_n 0, 1) := by decide +kernel
theorem dX7_shift_13 : decode cX7_shift 13 = .ok (.iload_n 1, 1) := by decide +kernel
theorem dX7_shift_14 : decode cX7_shift 14 = .ok (.iload_n 2, 1) := by decide +kernel
theorem dX7_shift_15 : decode cX7_shift 15 = .ok (.invokevirtual 174, 3) := by decide +kernel
theorem dX7_shift_18 : decode cX7_shift 18 = .ok (.aload_n 0, 1) := by decide +kernel
theorem dX7_shift_19 : decode cX7_shift 19 = .ok (.getfield 34, 3) := by decide +kernel
theorem dX7_shift_22 : decode cX7_shift 22 = .ok (.invokevirtual 180, 3) := by decide +kernel
theorem dX7_shift_25 : decode cX7_shift 25 = .ok (.ireturn, 1) := by decide +kernel
theorem dX7_voters_0 : decode cX7_voters 0 = .ok (.aload_n 0, 1) := by decide +kernel
theorem dX7_voters_1 : decode cX7_voters 1 = .ok (.iload_n 1, 1) := by decide +kernel
theorem dX7_voters_2 : decode cX7_voters 2 = .ok (.iload_n 2, 1) := by decide +kernel
theorem dX7_voters_3 : decode cX7_voters 3 = .ok (.invokevirtual 171, 3) := by decide +kernel
theorem dX7_voters_6 : decode cX7_voters 6 = .ok (.ifCond .eq 14, 3) := by decide +kernel
theorem dX7_voters_9 : decode cX7_voters 9 = .ok (.iload_n 3, 1) := by decide +kernel
theorem dX7_voters_10 : decode cX7_voters 10 = .ok (.bipush (-8), 2) := by decide +kernel
theorem dX7_voters_12 : decode cX7_voters 12 = .ok (.bipush 8, 2) := by decide +kernel
theorem dX7_voters_14 : decode cX7_voters 14 = .ok (.invokestatic 56, 3) := by decide +kernel
theorem dX7_voters_17 : decode cX7_voters 17 = .ok (.ifCond .ne 6, 3) := by decide +kernel
theorem dX7_voters_20 : decode cX7_voters 20 = .ok (.ldc 60, 2) := by decide +kernel
theorem dX7_voters_22 : decode cX7_voters 22 = .ok (.ireturn, 1) := by decide +kernel
theorem dX7_voters_23 : decode cX7_voters 23 = .ok (.aload_n 0, 1) := by decide +kernel
theorem dX7_voters_24 : decode cX7_voters 24 = .ok (.iload_n 1, 1) := by decide +kernel
theorem dX7_voters_25 : decode cX7_voters 25 = .ok (.iload_n 2, 1) := by decide +kernel
theorem dX7_voters_26 : decode cX7_voters 26 = .ok (.invokevirtual 174, 3) := by decide +kernel
theorem dX7_voters_29 : decode cX7_voters 29 = .ok (.aload_n 0, 1) := by decide +kernel
theorem dX7_voters_30 : decode cX7_voters 30 = .ok (.getfield 34, 3) := by decide +kernel
theorem dX7_voters_33 : decode cX7_voters 33 = .ok (.iload_n 3, 1) := by decide +kernel
theorem dX7_voters_34 : decode cX7_voters 34 = .ok (.invokevirtual 184, 3) := by decide +kernel
theorem dX7_voters_37 : decode cX7_voters 37 = .ok (.ireturn, 1) := by decide +kernel
theorem dX7_dissent_0 : decode cX7_dissent 0 = .ok (.aload_n 0, 1) := by decide +kernel
theorem dX7_dissent_1 : decode cX7_dissent 1 = .ok (.iload_n 1, 1) := by decide +kernel
theorem dX7_dissent_2 : decode cX7_dissent 2 = .ok (.iload_n 2, 1) := by decide +kernel
theorem dX7_dissent_3 : decode cX7_dissent 3 = .ok (.invokevirtual 171, 3) := by decide +kernel
theorem dX7_dissent_6 : decode cX7_dissent 6 = .ok (.ifCond .ne 6, 3) := by decide +kernel
theorem dX7_dissent_9 : decode cX7_dissent 9 = .ok (.ldc 60, 2) := by decide +kernel
theorem dX7_dissent_11 : decode cX7_dissent 11 = .ok (.ireturn, 1) := by decide +kernel
theorem dX7_dissent_12 : decode cX7_dissent 12 = .ok (.aload_n 0, 1) := by decide +kernel
theorem dX7_dissent_13 : decode cX7_dissent 13 = .ok (.iload_n 1, 1) := by decide +kernel
theorem dX7_dissent_14 : decode cX7_dissent 14 = .ok (.iload_n 2, 1) := by decide +kernel
theorem dX7_dissent_15 : decode cX7_dissent 15 = .ok (.invokevirtual 174, 3) := by decide +kernel
theorem dX7_dissent_18 : decode cX7_dissent 18 = .ok (.aload_n 0, 1) := by decide +kernel
theorem dX7_dissent_19 : decode cX7_dissent 19 = .ok (.getfield 34, 3) := by decide +kernel
theorem dX7_dissent_22 : decode cX7_dissent 22 = .ok (.invokevirtual 180, 3) := by decide +kernel
theorem dX7_dissent_25 : decode cX7_dissent 25 = .ok (.istore_n 3, 1) := by decide +kernel
theorem dX7_dissent_26 : decode cX7_dissent 26 = .ok (.iload_n 3, 1) := by decide +kernel
theorem dX7_dissent_27 : decode cX7_dissent 27 = .ok (.ldc 163, 2) := by decide +kernel
theorem dX7_dissent_29 : decode cX7_dissent 29 = .ok (.if_icmp .ne 8, 3) := by decide +kernel
theorem dX7_dissent_32 : decode cX7_dissent 32 = .ok (.ldc 163, 2) := by decide +kernel
theorem dX7_dissent_34 : decode cX7_dissent 34 = .ok (.goto 21, 3) := by decide +kernel
theorem dX7_dissent_37 : decode cX7_dissent 37 = .ok (.aload_n 0, 1) := by decide +kernel
theorem dX7_dissent_38 : decode cX7_dissent 38 = .ok (.getfield 34, 3) := by decide +kernel
theorem dX7_dissent_41 : decode cX7_dissent 41 = .ok (.invokevirtual 187, 3) := by decide +kernel
theorem dX7_dissent_44 : decode cX7_dissent 44 = .ok (.aload_n 0, 1) := by decide +kernel
theorem dX7_dissent_45 : decode cX7_dissent 45 = .ok (.getfield 34, 3) := by decide +kernel
theorem dX7_dissent_48 : decode cX7_dissent 48 = .ok (.iload_n 3, 1) := by decide +kernel
theorem dX7_dissent_49 : decode cX7_dissent 49 = .ok (.invokevirtual 184, 3) := by decide +kernel
theorem dX7_dissent_52 : decode cX7_dissent 52 = .ok (.iconst (-1), 1) := by decide +kernel
theorem dX7_dissent_53 : decode cX7_dissent 53 = .ok (.ixor, 1) := by decide +kernel
theorem dX7_dissent_54 : decode cX7_dissent 54 = .ok (.iand, 1) := by decide +kernel
theorem dX7_dissent_55 : decode cX7_dissent 55 = .ok (.ireturn, 1) := by decide +kernel
theorem dX7_speed_0 : decode cX7_speed 0 = .ok (.aload_n 0, 1) := by decide +kernel
theorem dX7_speed_1 : decode cX7_speed 1 = .ok (.getfield 12, 3) := by decide +kernel
theorem dX7_speed_4 : decode cX7_speed 4 = .ok (.iload_n 1, 1) := by decide +kernel
theorem dX7_speed_5 : decode cX7_speed 5 = .ok (.invokevirtual 149, 3) := by decide +kernel
theorem dX7_speed_8 : decode cX7_speed 8 = .ok (.astore_n 3, 1) := by decide +kernel
theorem dX7_speed_9 : decode cX7_speed 9 = .ok (.aload_n 0, 1) := by decide +kernel
theorem dX7_speed_10 : decode cX7_speed 10 = .ok (.getfield 12, 3) := by decide +kernel
theorem dX7_speed_13 : decode cX7_speed 13 = .ok (.iload_n 2, 1) := by decide +kernel
theorem dX7_speed_14 : decode cX7_speed 14 = .ok (.invokevirtual 149, 3) := by decide +kernel
theorem dX7_speed_17 : decode cX7_speed 17 = .ok (.astore 4, 2) := by decide +kernel
theorem dX7_speed_19 : decode cX7_speed 19 = .ok (.aload_n 3, 1) := by decide +kernel
theorem dX7_speed_20 : decode cX7_speed 20 = .ok (.ifnull 13, 3) := by decide +kernel
theorem dX7_speed_23 : decode cX7_speed 23 = .ok (.aload 4, 2) := by decide +kernel
theorem dX7_speed_25 : decode cX7_speed 25 = .ok (.ifnull 8, 3) := by decide +kernel
theorem dX7_speed_28 : decode cX7_speed 28 = .ok (.iload_n 1, 1) := by decide +kernel
theorem dX7_speed_29 : decode cX7_speed 29 = .ok (.iload_n 2, 1) := by decide +kernel
theorem dX7_speed_30 : decode cX7_speed 30 = .ok (.if_icmp .ne 6, 3) := by decide +kernel
theorem dX7_speed_33 : decode cX7_speed 33 = .ok (.ldc 60, 2) := by decide +kernel
theorem dX7_speed_35 : decode cX7_speed 35 = .ok (.ireturn, 1) := by decide +kernel
theorem dX7_speed_36 : decode cX7_speed 36 = .ok (.aload 4, 2) := by decide +kernel
theorem dX7_speed_38 : decode cX7_speed 38 = .ok (.getfield 157, 3) := by decide +kernel
theorem dX7_speed_41 : decode cX7_speed 41 = .ok (.aload_n 3, 1) := by decide +kernel
theorem dX7_speed_42 : decode cX7_speed 42 = .ok (.getfield 157, 3) := by decide +kernel
theorem dX7_speed_45 : decode cX7_speed 45 = .ok (.isub, 1) := by decide +kernel
theorem dX7_speed_46 : decode cX7_speed 46 = .ok (.istore 5, 2) := by decide +kernel
theorem dX7_speed_48 : decode cX7_speed 48 = .ok (.iload 5, 2) := by decide +kernel
theorem dX7_speed_50 : decode cX7_speed 50 = .ok (.ifCond .ne 6, 3) := by decide +kernel
theorem dX7_speed_53 : decode cX7_speed 53 = .ok (.ldc 74, 2) := by decide +kernel
theorem dX7_speed_55 : decode cX7_speed 55 = .ok (.ireturn, 1) := by decide +kernel
theorem dX7_speed_56 : decode cX7_speed 56 = .ok (.aload_n 0, 1) := by decide +kernel
theorem dX7_speed_57 : decode cX7_speed 57 = .ok (.iload_n 1, 1) := by decide +kernel
theorem dX7_speed_58 : decode cX7_speed 58 = .ok (.iload_n 2, 1) := by decide +kernel
theorem dX7_speed_59 : decode cX7_speed 59 = .ok (.invokevirtual 174, 3) := by decide +kernel
theorem dX7_speed_62 : decode cX7_speed 62 = .ok (.aload_n 0, 1) := by decide +kernel
theorem dX7_speed_63 : decode cX7_speed 63 = .ok (.getfield 34, 3) := by decide +kernel
theorem dX7_speed_66 : decode cX7_speed 66 = .ok (.invokevirtual 180, 3) := by decide +kernel
theorem dX7_speed_69 : decode cX7_speed 69 = .ok (.istore 6, 2) := by decide +kernel
theorem dX7_speed_71 : decode cX7_speed 71 = .ok (.iload 6, 2) := by decide +kernel
theorem dX7_speed_73 : decode cX7_speed 73 = .ok (.ldc 163, 2) := by decide +kernel
theorem dX7_speed_75 : decode cX7_speed 75 = .ok (.if_icmp .ne 8, 3) := by decide +kernel
theorem dX7_speed_78 : decode cX7_speed 78 = .ok (.ldc 163, 2) := by decide +kernel
theorem dX7_speed_80 : decode cX7_speed 80 = .ok (.goto 11, 3) := by decide +kernel
theorem dX7_speed_83 : decode cX7_speed 83 = .ok (.iload 6, 2) := by decide +kernel
theorem dX7_speed_85 : decode cX7_speed 85 = .ok (.bipush 100, 2) := by decide +kernel
theorem dX7_speed_87 : decode cX7_speed 87 = .ok (.imul, 1) := by decide +kernel
theorem dX7_speed_88 : decode cX7_speed 88 = .ok (.iload 5, 2) := by decide +kernel
theorem dX7_speed_90 : decode cX7_speed 90 = .ok (.idiv, 1) := by decide +kernel
theorem dX7_speed_91 : decode cX7_speed 91 = .ok (.ireturn, 1) := by decide +kernel
theorem dX7_slant_0 : decode cX7_slant 0 = .ok (.aload_n 0, 1) := by decide +kernel
theorem dX7_slant_1 : decode cX7_slant 1 = .ok (.getfield 12, 3) := by decide +kernel
theorem dX7_slant_4 : decode cX7_slant 4 = .ok (.iload_n 1, 1) := by decide +kernel
theorem dX7_slant_5 : decode cX7_slant 5 = .ok (.invokevirtual 149, 3) := by decide +kernel
theorem dX7_slant_8 : decode cX7_slant 8 = .ok (.astore_n 2, 1) := by decide +kernel
theorem dX7_slant_9 : decode cX7_slant 9 = .ok (.aload_n 2, 1) := by decide +kernel
theorem dX7_slant_10 : decode cX7_slant 10 = .ok (.ifnonnull 6, 3) := by decide +kernel
theorem dX7_slant_13 : decode cX7_slant 13 = .ok (.ldc 60, 2) := by decide +kernel
theorem dX7_slant_15 : decode cX7_slant 15 = .ok (.ireturn, 1) := by decide +kernel
theorem dX7_slant_16 : decode cX7_slant 16 = .ok (.aload_n 0, 1) := by decide +kernel
theorem dX7_slant_17 : decode cX7_slant 17 = .ok (.getfield 34, 3) := by decide +kernel
theorem dX7_slant_20 : decode cX7_slant 20 = .ok (.aload_n 0, 1) := by decide +kernel
theorem dX7_slant_21 : decode cX7_slant 21 = .ok (.getfield 12, 3) := by decide +kernel
theorem dX7_slant_24 : decode cX7_slant 24 = .ok (.aload_n 2, 1) := by decide +kernel
theorem dX7_slant_25 : decode cX7_slant 25 = .ok (.invokevirtual 190, 3) := by decide +kernel
theorem dX7_slant_28 : decode cX7_slant 28 = .ok (.aload_n 0, 1) := by decide +kernel
theorem dX7_slant_29 : decode cX7_slant 29 = .ok (.getfield 34, 3) := by decide +kernel
theorem dX7_slant_32 : decode cX7_slant 32 = .ok (.invokevirtual 180, 3) := by decide +kernel
theorem dX7_slant_35 : decode cX7_slant 35 = .ok (.ireturn, 1) := by decide +kernel
theorem dX7_slantSpeed_0 : decode cX7_slantSpeed 0 = .ok (.aload_n 0, 1) := by decide +kernel
theorem dX7_slantSpeed_1 : decode cX7_slantSpeed 1 = .ok (.getfield 12, 3) := by decide +kernel
theorem dX7_slantSpeed_4 : decode cX7_slantSpeed 4 = .ok (.iload_n 1, 1) := by decide +kernel
theorem dX7_slantSpeed_5 : decode cX7_slantSpeed 5 = .ok (.invokevirtual 149, 3) := by decide +kernel
theorem dX7_slantSpeed_8 : decode cX7_slantSpeed 8 = .ok (.astore_n 2, 1) := by decide +kernel
theorem dX7_slantSpeed_9 : decode cX7_slantSpeed 9 = .ok (.aload_n 2, 1) := by decide +kernel
theorem dX7_slantSpeed_10 : decode cX7_slantSpeed 10 = .ok (.ifnonnull 6, 3) := by decide +kernel
theorem dX7_slantSpeed_13 : decode cX7_slantSpeed 13 = .ok (.ldc 60, 2) := by decide +kernel
theorem dX7_slantSpeed_15 : decode cX7_slantSpeed 15 = .ok (.ireturn, 1) := by decide +kernel
theorem dX7_slantSpeed_16 : decode cX7_slantSpeed 16 = .ok (.aload_n 0, 1) := by decide +kernel
theorem dX7_slantSpeed_17 : decode cX7_slantSpeed 17 = .ok (.getfield 12, 3) := by decide +kernel
theorem dX7_slantSpeed_20 : decode cX7_slantSpeed 20 = .ok (.iconst 2, 1) := by decide +kernel
theorem dX7_slantSpeed_21 : decode cX7_slantSpeed 21 = .ok (.invokevirtual 78, 3) := by decide +kernel
theorem dX7_slantSpeed_24 : decode cX7_slantSpeed 24 = .ok (.istore_n 3, 1) := by decide +kernel
theorem dX7_slantSpeed_25 : decode cX7_slantSpeed 25 = .ok (.iload_n 3, 1) := by decide +kernel
theorem dX7_slantSpeed_26 : decode cX7_slantSpeed 26 = .ok (.ifCond .ne 6, 3) := by decide +kernel
theorem dX7_slantSpeed_29 : decode cX7_slantSpeed 29 = .ok (.ldc 74, 2) := by decide +kernel
theorem dX7_slantSpeed_31 : decode cX7_slantSpeed 31 = .ok (.ireturn, 1) := by decide +kernel
theorem dX7_slantSpeed_32 : decode cX7_slantSpeed 32 = .ok (.aload_n 0, 1) := by decide +kernel
theorem dX7_slantSpeed_33 : decode cX7_slantSpeed 33 = .ok (.getfield 34, 3) := by decide +kernel
theorem dX7_slantSpeed_36 : decode cX7_slantSpeed 36 = .ok (.aload_n 0, 1) := by decide +kernel
theorem dX7_slantSpeed_37 : decode cX7_slantSpeed 37 = .ok (.getfield 12, 3) := by decide +kernel
theorem dX7_slantSpeed_40 : decode cX7_slantSpeed 40 = .ok (.aload_n 2, 1) := by decide +kernel
theorem dX7_slantSpeed_41 : decode cX7_slantSpeed 41 = .ok (.invokevirtual 190, 3) := by decide +kernel
theorem dX7_slantSpeed_44 : decode cX7_slantSpeed 44 = .ok (.aload_n 0, 1) := by decide +kernel
theorem dX7_slantSpeed_45 : decode cX7_slantSpeed 45 = .ok (.getfield 34, 3) := by decide +kernel
theorem dX7_slantSpeed_48 : decode cX7_slantSpeed 48 = .ok (.invokevirtual 180, 3) := by decide +kernel
theorem dX7_slantSpeed_51 : decode cX7_slantSpeed 51 = .ok (.istore 4, 2) := by decide +kernel
theorem dX7_slantSpeed_53 : decode cX7_slantSpeed 53 = .ok (.iload 4, 2) := by decide +kernel
theorem dX7_slantSpeed_55 : decode cX7_slantSpeed 55 = .ok (.ldc 163, 2) := by decide +kernel
theorem dX7_slantSpeed_57 : decode cX7_slantSpeed 57 = .ok (.if_icmp .ne 8, 3) := by decide +kernel
theorem dX7_slantSpeed_60 : decode cX7_slantSpeed 60 = .ok (.ldc 163, 2) := by decide +kernel
theorem dX7_slantSpeed_62 : decode cX7_slantSpeed 62 = .ok (.goto 10, 3) := by decide +kernel
theorem dX7_slantSpeed_65 : decode cX7_slantSpeed 65 = .ok (.iload 4, 2) := by decide +kernel
theorem dX7_slantSpeed_67 : decode cX7_slantSpeed 67 = .ok (.bipush 100, 2) := by decide +kernel
theorem dX7_slantSpeed_69 : decode cX7_slantSpeed 69 = .ok (.imul, 1) := by decide +kernel
theorem dX7_slantSpeed_70 : decode cX7_slantSpeed 70 = .ok (.iload_n 3, 1) := by decide +kernel
theorem dX7_slantSpeed_71 : decode cX7_slantSpeed 71 = .ok (.idiv, 1) := by decide +kernel
theorem dX7_slantSpeed_72 : decode cX7_slantSpeed 72 = .ok (.ireturn, 1) := by decide +kernel
theorem dX7_weighed_0 : decode cX7_weighed 0 = .ok (.aload_n 0, 1) := by decide +kernel
theorem dX7_weighed_1 : decode cX7_weighed 1 = .ok (.iload_n 1, 1) := by decide +kernel
theorem dX7_weighed_2 : decode cX7_weighed 2 = .ok (.iload_n 2, 1) := by decide +kernel
theorem dX7_weighed_3 : decode cX7_weighed 3 = .ok (.invokevirtual 171, 3) := by decide +kernel
theorem dX7_weighed_6 : decode cX7_weighed 6 = .ok (.ifCond .ne 6, 3) := by decide +kernel
theorem dX7_weighed_9 : decode cX7_weighed 9 = .ok (.ldc 60, 2) := by decide +kernel
theorem dX7_weighed_11 : decode cX7_weighed 11 = .ok (.ireturn, 1) := by decide +kernel
theorem dX7_weighed_12 : decode cX7_weighed 12 = .ok (.aload_n 0, 1) := by decide +kernel
theorem dX7_weighed_13 : decode cX7_weighed 13 = .ok (.iload_n 1, 1) := by decide +kernel
theorem dX7_weighed_14 : decode cX7_weighed 14 = .ok (.iload_n 2, 1) := by decide +kernel
theorem dX7_weighed_15 : decode cX7_weighed 15 = .ok (.invokevirtual 174, 3) := by decide +kernel
theorem dX7_weighed_18 : decode cX7_weighed 18 = .ok (.aload_n 0, 1) := by decide +kernel
theorem dX7_weighed_19 : decode cX7_weighed 19 = .ok (.getfield 34, 3) := by decide +kernel
theorem dX7_weighed_22 : decode cX7_weighed 22 = .ok (.aload_n 0, 1) := by decide +kernel
theorem dX7_weighed_23 : decode cX7_weighed 23 = .ok (.getfield 12, 3) := by decide +kernel
theorem dX7_weighed_26 : decode cX7_weighed 26 = .ok (.invokevirtual 194, 3) := by decide +kernel
theorem dX7_weighed_29 : decode cX7_weighed 29 = .ok (.aload_n 0, 1) := by decide +kernel
theorem dX7_weighed_30 : decode cX7_weighed 30 = .ok (.getfield 34, 3) := by decide +kernel
theorem dX7_weighed_33 : decode cX7_weighed 33 = .ok (.invokevirtual 180, 3) := by decide +kernel
theorem dX7_weighed_36 : decode cX7_weighed 36 = .ok (.ireturn, 1) := by decide +kernel
theorem dX7_judge_0 : decode cX7_judge 0 = .ok (.aload_n 0, 1) := by decide +kernel
theorem dX7_judge_1 : decode cX7_judge 1 = .ok (.iload_n 1, 1) := by decide +kernel
theorem dX7_judge_2 : decode cX7_judge 2 = .ok (.iload_n 2, 1) := by decide +kernel
theorem dX7_judge_3 : decode cX7_judge 3 = .ok (.invokevirtual 171, 3) := by decide +kernel
theorem dX7_judge_6 : decode cX7_judge 6 = .ok (.ifCond .ne 6, 3) := by decide +kernel
theorem dX7_judge_9 : decode cX7_judge 9 = .ok (.ldc 60, 2) := by decide +kernel
theorem dX7_judge_11 : decode cX7_judge 11 = .ok (.ireturn, 1) := by decide +kernel
theorem dX7_judge_12 : decode cX7_judge 12 = .ok (.aload_n 0, 1) := by decide +kernel
theorem dX7_judge_13 : decode cX7_judge 13 = .ok (.iload_n 1, 1) := by decide +kernel
theorem dX7_judge_14 : decode cX7_judge 14 = .ok (.iload_n 2, 1) := by decide +kernel
theorem dX7_judge_15 : decode cX7_judge 15 = .ok (.invokevirtual 174, 3) := by decide +kernel
theorem dX7_judge_18 : decode cX7_judge 18 = .ok (.aload_n 0, 1) := by decide +kernel
theorem dX7_judge_19 : decode cX7_judge 19 = .ok (.getfield 34, 3) := by decide +kernel
theorem dX7_judge_22 : decode cX7_judge 22 = .ok (.invokevirtual 180, 3) := by decide +kernel
theorem dX7_judge_25 : decode cX7_judge 25 = .ok (.istore_n 3, 1) := by decide +kernel
theorem dX7_judge_26 : decode cX7_judge 26 = .ok (.iload_n 3, 1) := by decide +kernel
theorem dX7_judge_27 : decode cX7_judge 27 = .ok (.ldc 163, 2) := by decide +kernel
theorem dX7_judge_29 : decode cX7_judge 29 = .ok (.if_icmp .ne 6, 3) := by decide +kernel
theorem dX7_judge_32 : decode cX7_judge 32 = .ok (.ldc 163, 2) := by decide +kernel
theorem dX7_judge_34 : decode cX7_judge 34 = .ok (.ireturn, 1) := by decide +kernel
theorem dX7_judge_35 : decode cX7_judge 35 = .ok (.aload_n 0, 1) := by decide +kernel
theorem dX7_judge_36 : decode cX7_judge 36 = .ok (.invokevirtual 75, 3) := by decide +kernel
theorem dX7_judge_39 : decode cX7_judge 39 = .ok (.aload_n 0, 1) := by decide +kernel
theorem dX7_judge_40 : decode cX7_judge 40 = .ok (.getfield 12, 3) := by decide +kernel
theorem dX7_judge_43 : decode cX7_judge 43 = .ok (.aload_n 0, 1) := by decide +kernel
theorem dX7_judge_44 : decode cX7_judge 44 = .ok (.getfield 34, 3) := by decide +kernel
theorem dX7_judge_47 : decode cX7_judge 47 = .ok (.iload_n 3, 1) := by decide +kernel
theorem dX7_judge_48 : decode cX7_judge 48 = .ok (.invokevirtual 184, 3) := by decide +kernel
theorem dX7_judge_51 : decode cX7_judge 51 = .ok (.aload_n 0, 1) := by decide +kernel
theorem dX7_judge_52 : decode cX7_judge 52 = .ok (.getfield 34, 3) := by decide +kernel
theorem dX7_judge_55 : decode cX7_judge 55 = .ok (.invokevirtual 187, 3) := by decide +kernel
theorem dX7_judge_58 : decode cX7_judge 58 = .ok (.invokevirtual 198, 3) := by decide +kernel
theorem dX7_judge_61 : decode cX7_judge 61 = .ok (.aload_n 0, 1) := by decide +kernel
theorem dX7_judge_62 : decode cX7_judge 62 = .ok (.getfield 34, 3) := by decide +kernel
theorem dX7_judge_65 : decode cX7_judge 65 = .ok (.invokevirtual 187, 3) := by decide +kernel
theorem dX7_judge_68 : decode cX7_judge 68 = .ok (.invokestatic 126, 3) := by decide +kernel
theorem dX7_judge_71 : decode cX7_judge 71 = .ok (.ireturn, 1) := by decide +kernel
theorem dX7_rowOf_0 : decode cX7_rowOf 0 = .ok (.iload_n 1, 1) := by decide +kernel
theorem dX7_rowOf_1 : decode cX7_rowOf 1 = .ok (.iconst 0, 1) := by decide +kernel
theorem dX7_rowOf_2 : decode cX7_rowOf 2 = .ok (.bipush 9, 2) := by decide +kernel
theorem dX7_rowOf_4 : decode cX7_rowOf 4 = .ok (.invokestatic 56, 3) := by decide +kernel
theorem dX7_rowOf_7 : decode cX7_rowOf 7 = .ok (.ifCond .eq 12, 3) := by decide +kernel
theorem dX7_rowOf_10 : decode cX7_rowOf 10 = .ok (.iload_n 2, 1) := by decide +kernel
theorem dX7_rowOf_11 : decode cX7_rowOf 11 = .ok (.iconst 0, 1) := by decide +kernel
theorem dX7_rowOf_12 : decode cX7_rowOf 12 = .ok (.iconst 3, 1) := by decide +kernel
theorem dX7_rowOf_13 : decode cX7_rowOf 13 = .ok (.invokestatic 56, 3) := by decide +kernel
theorem dX7_rowOf_16 : decode cX7_rowOf 16 = .ok (.ifCond .ne 6, 3) := by decide +kernel
theorem dX7_rowOf_19 : decode cX7_rowOf 19 = .ok (.ldc 60, 2) := by decide +kernel
theorem dX7_rowOf_21 : decode cX7_rowOf 21 = .ok (.ireturn, 1) := by decide +kernel
theorem dX7_rowOf_22 : decode cX7_rowOf 22 = .ok (.iload_n 2, 1) := by decide +kernel
theorem dX7_rowOf_23 : decode cX7_rowOf 23 = .ok (.ifCond .ne 23, 3) := by decide +kernel
theorem dX7_rowOf_26 : decode cX7_rowOf 26 = .ok (.aload_n 0, 1) := by decide +kernel
theorem dX7_rowOf_27 : decode cX7_rowOf 27 = .ok (.getfield 12, 3) := by decide +kernel
theorem dX7_rowOf_30 : decode cX7_rowOf 30 = .ok (.getfield 119, 3) := by decide +kernel
theorem dX7_rowOf_33 : decode cX7_rowOf 33 = .ok (.iload_n 1, 1) := by decide +kernel
theorem dX7_rowOf_34 : decode cX7_rowOf 34 = .ok (.invokestatic 122, 3) := by decide +kernel
theorem dX7_rowOf_37 : decode cX7_rowOf 37 = .ok (.ifCond .eq 7, 3) := by decide +kernel
theorem dX7_rowOf_40 : decode cX7_rowOf 40 = .ok (.iconst 1, 1) := by decide +kernel
theorem dX7_rowOf_41 : decode cX7_rowOf 41 = .ok (.goto 4, 3) := by decide +kernel
theorem dX7_rowOf_44 : decode cX7_rowOf 44 = .ok (.iconst 0, 1) := by decide +kernel
theorem dX7_rowOf_45 : decode cX7_rowOf 45 = .ok (.ireturn, 1) := by decide +kernel
theorem dX7_rowOf_46 : decode cX7_rowOf 46 = .ok (.iload_n 2, 1) := by decide +kernel
theorem dX7_rowOf_47 : decode cX7_rowOf 47 = .ok (.iconst 3, 1) := by decide +kernel
theorem dX7_rowOf_48 : decode cX7_rowOf 48 = .ok (.if_icmp .ne 12, 3) := by decide +kernel
theorem dX7_rowOf_51 : decode cX7_rowOf 51 = .ok (.aload_n 0, 1) := by decide +kernel
theorem dX7_rowOf_52 : decode cX7_rowOf 52 = .ok (.getfield 12, 3) := by decide +kernel
theorem dX7_rowOf_55 : decode cX7_rowOf 55 = .ok (.iload_n 1, 1) := by decide +kernel
theorem dX7_rowOf_56 : decode cX7_rowOf 56 = .ok (.invokevirtual 201, 3) := by decide +kernel
theorem dX7_rowOf_59 : decode cX7_rowOf 59 = .ok (.ireturn, 1) := by decide +kernel
theorem dX7_rowOf_60 : decode cX7_rowOf 60 = .ok (.iload_n 2, 1) := by decide +kernel
theorem dX7_rowOf_61 : decode cX7_rowOf 61 = .ok (.iconst 1, 1) := by decide +kernel
theorem dX7_rowOf_62 : decode cX7_rowOf 62 = .ok (.if_icmp .ne 13, 3) := by decide +kernel
theorem dX7_rowOf_65 : decode cX7_rowOf 65 = .ok (.aload_n 0, 1) := by decide +kernel
theorem dX7_rowOf_66 : decode cX7_rowOf 66 = .ok (.getfield 12, 3) := by decide +kernel
theorem dX7_rowOf_69 : decode cX7_rowOf 69 = .ok (.getfield 204, 3) := by decide +kernel
theorem dX7_rowOf_72 : decode cX7_rowOf 72 = .ok (.goto 10, 3) := by decide +kernel
theorem dX7_rowOf_75 : decode cX7_rowOf 75 = .ok (.aload_n 0, 1) := by decide +kernel
theorem dX7_rowOf_76 : decode cX7_rowOf 76 = .ok (.getfield 12, 3) := by decide +kernel
theorem dX7_rowOf_79 : decode cX7_rowOf 79 = .ok (.getfield 207, 3) := by decide +kernel
theorem dX7_rowOf_82 : decode cX7_rowOf 82 = .ok (.iload_n 1, 1) := by decide +kernel
theorem dX7_rowOf_83 : decode cX7_rowOf 83 = .ok (.invokestatic 64, 3) := by decide +kernel
theorem dX7_rowOf_86 : decode cX7_rowOf 86 = .ok (.ireturn, 1) := by decide +kernel
theorem dX7_bestWait_0 : decode cX7_bestWait 0 = .ok (.aload_n 0, 1) := by decide +kernel
theorem dX7_bestWait_1 : decode cX7_bestWait 1 = .ok (.getfield 12, 3) := by decide +kernel
theorem dX7_bestWait_4 : decode cX7_bestWait 4 = .ok (.iload_n 1, 1) := by decide +kernel
theorem dX7_bestWait_5 : decode cX7_bestWait 5 = .ok (.invokevirtual 149, 3) := by decide +kernel
theorem dX7_bestWait_8 : decode cX7_bestWait 8 = .ok (.astore_n 3, 1) := by decide +kernel
theorem dX7_bestWait_9 : decode cX7_bestWait 9 = .ok (.aload_n 3, 1) := by decide +kernel
theorem dX7_bestWait_10 : decode cX7_bestWait 10 = .ok (.ifnull 12, 3) := by decide +kernel
theorem dX7_bestWait_13 : decode cX7_bestWait 13 = .ok (.iload_n 2, 1) := by decide +kernel
theorem dX7_bestWait_14 : decode cX7_bestWait 14 = .ok (.iconst 0, 1) := by decide +kernel
theorem dX7_bestWait_15 : decode cX7_bestWait 15 = .ok (.iconst 1, 1) := by decide +kernel
theorem dX7_bestWait_16 : decode cX7_bestWait 16 = .ok (.invokestatic 56, 3) := by decide +kernel
theorem dX7_bestWait_19 : decode cX7_bestWait 19 = .ok (.ifCond .ne 6, 3) := by decide +kernel
theorem dX7_bestWait_22 : decode cX7_bestWait 22 = .ok (.ldc 60, 2) := by decide +kernel
theorem dX7_bestWait_24 : decode cX7_bestWait 24 = .ok (.ireturn, 1) := by decide +kernel
theorem dX7_bestWait_25 : decode cX7_bestWait 25 = .ok (.ldc 163, 2) := by decide +kernel
theorem dX7_bestWait_27 : decode cX7_bestWait 27 = .ok (.istore 4, 2) := by decide +kernel
theorem dX7_bestWait_29 : decode cX7_bestWait 29 = .ok (.iconst 0, 1) := by decide +kernel
theorem dX7_bestWait_30 : decode cX7_bestWait 30 = .ok (.istore 5, 2) := by decide +kernel
theorem dX7_bestWait_32 : decode cX7_bestWait 32 = .ok (.aload_n 0, 1) := by decide +kernel
theorem dX7_bestWait_33 : decode cX7_bestWait 33 = .ok (.getfield 34, 3) := by decide +kernel
theorem dX7_bestWait_36 : decode cX7_bestWait 36 = .ok (.aload_n 0, 1) := by decide +kernel
theorem dX7_bestWait_37 : decode cX7_bestWait 37 = .ok (.getfield 12, 3) := by decide +kernel
theorem dX7_bestWait_40 : decode cX7_bestWait 40 = .ok (.aload_n 3, 1) := by decide +kernel
theorem dX7_bestWait_41 : decode cX7_bestWait 41 = .ok (.invokevirtual 210, 3) := by decide +kernel
theorem dX7_bestWait_44 : decode cX7_bestWait 44 = .ok (.iconst 1, 1) := by decide +kernel
theorem dX7_bestWait_45 : decode cX7_bestWait 45 = .ok (.istore 6, 2) := by decide +kernel
theorem dX7_bestWait_47 : decode cX7_bestWait 47 = .ok (.iload 6, 2) := by decide +kernel
theorem dX7_bestWait_49 : decode cX7_bestWait 49 = .ok (.bipush 40, 2) := by decide +kernel
theorem dX7_bestWait_51 : decode cX7_bestWait 51 = .ok (.if_icmp .gt 93, 3) := by decide +kernel
theorem dX7_bestWait_54 : decode cX7_bestWait 54 = .ok (.aload_n 0, 1) := by decide +kernel
theorem dX7_bestWait_55 : decode cX7_bestWait 55 = .ok (.getfield 12, 3) := by decide +kernel
theorem dX7_bestWait_58 : decode cX7_bestWait 58 = .ok (.aload_n 0, 1) := by decide +kernel
theorem dX7_bestWait_59 : decode cX7_bestWait 59 = .ok (.getfield 48, 3) := by decide +kernel
theorem dX7_bestWait_62 : decode cX7_bestWait 62 = .ok (.aload_n 0, 1) := by decide +kernel
theorem dX7_bestWait_63 : decode cX7_bestWait 63 = .ok (.getfield 12, 3) := by decide +kernel
theorem dX7_bestWait_66 : decode cX7_bestWait 66 = .ok (.getfield 107, 3) := by decide +kernel
theorem dX7_bestWait_69 : decode cX7_bestWait 69 = .ok (.iload 6, 2) := by decide +kernel
theorem dX7_bestWait_71 : decode cX7_bestWait 71 = .ok (.iadd, 1) := by decide +kernel
theorem dX7_bestWait_72 : decode cX7_bestWait 72 = .ok (.aload_n 0, 1) := by decide +kernel
theorem dX7_bestWait_73 : decode cX7_bestWait 73 = .ok (.getfield 52, 3) := by decide +kernel
theorem dX7_bestWait_76 : decode cX7_bestWait 76 = .ok (.invokevirtual 213, 3) := by decide +kernel
theorem dX7_bestWait_79 : decode cX7_bestWait 79 = .ok (.aload_n 0, 1) := by decide +kernel
theorem dX7_bestWait_80 : decode cX7_bestWait 80 = .ok (.getfield 34, 3) := by decide +kernel
theorem dX7_bestWait_83 : decode cX7_bestWait 83 = .ok (.aload_n 0, 1) := by decide +kernel
theorem dX7_bestWait_84 : decode cX7_bestWait 84 = .ok (.getfield 12, 3) := by decide +kernel
theorem dX7_bestWait_87 : decode cX7_bestWait 87 = .ok (.aload_n 0, 1) := by decide +kernel
theorem dX7_bestWait_88 : decode cX7_bestWait 88 = .ok (.getfield 48, 3) := by decide +kernel
theorem dX7_bestWait_91 : decode cX7_bestWait 91 = .ok (.invokevirtual 217, 3) := by decide +kernel
theorem dX7_bestWait_94 : decode cX7_bestWait 94 = .ok (.aload_n 0, 1) := by decide +kernel
theorem dX7_bestWait_95 : decode cX7_bestWait 95 = .ok (.getfield 34, 3) := by decide +kernel
theorem dX7_bestWait_98 : decode cX7_bestWait 98 = .ok (.invokevirtual 220, 3) := by decide +kernel
theorem dX7_bestWait_101 : decode cX7_bestWait 101 = .ok (.aload_n 0, 1) := by decide +kernel
theorem dX7_bestWait_102 : decode cX7_bestWait 102 = .ok (.getfield 34, 3) := by decide +kernel
theorem dX7_bestWait_105 : decode cX7_bestWait 105 = .ok (.invokevirtual 180, 3) := by decide +kernel
theorem dX7_bestWait_108 : decode cX7_bestWait 108 = .ok (.ldc 163, 2) := by decide +kernel
theorem dX7_bestWait_110 : decode cX7_bestWait 110 = .ok (.if_icmp .eq 28, 3) := by decide +kernel
theorem dX7_bestWait_113 : decode cX7_bestWait 113 = .ok (.aload_n 0, 1) := by decide +kernel
theorem dX7_bestWait_114 : decode cX7_bestWait 114 = .ok (.getfield 34, 3) := by decide +kernel
theorem dX7_bestWait_117 : decode cX7_bestWait 117 = .ok (.invokevirtual 223, 3) := by decide +kernel
theorem dX7_bestWait_120 : decode cX7_bestWait 120 = .ok (.iload 5, 2) := by decide +kernel
theorem dX7_bestWait_122 : decode cX7_bestWait 122 = .ok (.if_icmp .le 16, 3) := by decide +kernel
theorem dX7_bestWait_125 : decode cX7_bestWait 125 = .ok (.iload 6, 2) := by decide +kernel
theorem dX7_bestWait_127 : decode cX7_bestWait 127 = .ok (.istore 4, 2) := by decide +kernel
theorem dX7_bestWait_129 : decode cX7_bestWait 129 = .ok (.aload_n 0, 1) := by decide +kernel
theorem dX7_bestWait_130 : decode cX7_bestWait 130 = .ok (.getfield 34, 3) := by decide +kernel
theorem dX7_bestWait_133 : decode cX7_bestWait 133 = .ok (.invokevirtual 223, 3) := by decide +kernel
theorem dX7_bestWait_136 : decode cX7_bestWait 136 = .ok (.istore 5, 2) := by decide +kernel
theorem dX7_bestWait_138 : decode cX7_bestWait 138 = .ok (.iinc 6 1, 3) := by decide +kernel
theorem dX7_bestWait_141 : decode cX7_bestWait 141 = .ok (.goto (-94), 3) := by decide +kernel
theorem dX7_bestWait_144 : decode cX7_bestWait 144 = .ok (.iload_n 2, 1) := by decide +kernel
theorem dX7_bestWait_145 : decode cX7_bestWait 145 = .ok (.iconst 1, 1) := by decide +kernel
theorem dX7_bestWait_146 : decode cX7_bestWait 146 = .ok (.if_icmp .ne 15, 3) := by decide +kernel
theorem dX7_bestWait_149 : decode cX7_bestWait 149 = .ok (.iload 4, 2) := by decide +kernel
theorem dX7_bestWait_151 : decode cX7_bestWait 151 = .ok (.ldc 163, 2) := by decide +kernel
theorem dX7_bestWait_153 : decode cX7_bestWait 153 = .ok (.if_icmp .eq 8, 3) := by decide +kernel
theorem dX7_bestWait_156 : decode cX7_bestWait 156 = .ok (.iload 5, 2) := by decide +kernel
theorem dX7_bestWait_158 : decode cX7_bestWait 158 = .ok (.goto 5, 3) := by decide +kernel
theorem dX7_bestWait_161 : decode cX7_bestWait 161 = .ok (.iload 4, 2) := by decide +kernel
theorem dX7_bestWait_163 : decode cX7_bestWait 163 = .ok (.ireturn, 1) := by decide +kernel
theorem dX7_motions_0 : decode cX7_motions 0 = .ok (.aload_n 0, 1) := by decide +kernel
theorem dX7_motions_1 : decode cX7_motions 1 = .ok (.getfield 12, 3) := by decide +kernel
theorem dX7_motions_4 : decode cX7_motions 4 = .ok (.iload_n 1, 1) := by decide +kernel
theorem dX7_motions_5 : decode cX7_motions 5 = .ok (.invokevirtual 98, 3) := by decide +kernel
theorem dX7_motions_8 : decode cX7_motions 8 = .ok (.ifnull 12, 3) := by decide +kernel
theorem dX7_motions_11 : decode cX7_motions 11 = .ok (.iload_n 2, 1) := by decide +kernel
theorem dX7_motions_12 : decode cX7_motions 12 = .ok (.iconst 0, 1) := by decide +kernel
theorem dX7_motions_13 : decode cX7_motions 13 = .ok (.iconst 4, 1) := by decide +kernel
theorem dX7_motions_14 : decode cX7_motions 14 = .ok (.invokestatic 56, 3) := by decide +kernel
theorem dX7_motions_17 : decode cX7_motions 17 = .ok (.ifCond .ne 6, 3) := by decide +kernel
theorem dX7_motions_20 : decode cX7_motions 20 = .ok (.ldc 60, 2) := by decide +kernel
theorem dX7_motions_22 : decode cX7_motions 22 = .ok (.ireturn, 1) := by decide +kernel
theorem dX7_motions_23 : decode cX7_motions 23 = .ok (.aload_n 0, 1) := by decide +kernel
theorem dX7_motions_24 : decode cX7_motions 24 = .ok (.getfield 41, 3) := by decide +kernel
theorem dX7_motions_27 : decode cX7_motions 27 = .ok (.aload_n 0, 1) := by decide +kernel
theorem dX7_motions_28 : decode cX7_motions 28 = .ok (.getfield 12, 3) := by decide +kernel
theorem dX7_motions_31 : decode cX7_motions 31 = .ok (.iload_n 1, 1) := by decide +kernel
theorem dX7_motions_32 : decode cX7_motions 32 = .ok (.invokevirtual 226, 3) := by decide +kernel
theorem dX7_motions_35 : decode cX7_motions 35 = .ok (.iload_n 2, 1) := by decide +kernel
theorem dX7_motions_36 : decode cX7_motions 36 = .ok (.ifCond .le 18, 3) := by decide +kernel
theorem dX7_motions_39 : decode cX7_motions 39 = .ok (.aload_n 0, 1) := by decide +kernel
theorem dX7_motions_40 : decode cX7_motions 40 = .ok (.getfield 41, 3) := by decide +kernel
theorem dX7_motions_43 : decode cX7_motions 43 = .ok (.invokevirtual 230, 3) := by decide +kernel
theorem dX7_motions_46 : decode cX7_motions 46 = .ok (.ifCond .eq 8, 3) := by decide +kernel
theorem dX7_motions_49 : decode cX7_motions 49 = .ok (.ldc 163, 2) := by decide +kernel
theorem dX7_motions_51 : decode cX7_motions 51 = .ok (.goto 11, 3) := by decide +kernel
theorem dX7_motions_54 : decode cX7_motions 54 = .ok (.aload_n 0, 1) := by decide +kernel
theorem dX7_motions_55 : decode cX7_motions 55 = .ok (.getfield 41, 3) := by decide +kernel
theorem dX7_motions_58 : decode cX7_motions 58 = .ok (.iload_n 2, 1) := by decide +kernel
theorem dX7_motions_59 : decode cX7_motions 59 = .ok (.invokevirtual 234, 3) := by decide +kernel
theorem dX7_motions_62 : decode cX7_motions 62 = .ok (.ireturn, 1) := by decide +kernel
theorem dX7_periods_0 : decode cX7_periods 0 = .ok (.ldc 237, 2) := by decide +kernel
theorem dX7_periods_2 : decode cX7_periods 2 = .ok (.istore_n 1, 1) := by decide +kernel
theorem dX7_periods_3 : decode cX7_periods 3 = .ok (.iconst 0, 1) := by decide +kernel
theorem dX7_periods_4 : decode cX7_periods 4 = .ok (.istore_n 2, 1) := by decide +kernel
theorem dX7_periods_5 : decode cX7_periods 5 = .ok (.iload_n 2, 1) := by decide +kernel
theorem dX7_periods_6 : decode cX7_periods 6 = .ok (.aload_n 0, 1) := by decide +kernel
theorem dX7_periods_7 : decode cX7_periods 7 = .ok (.getfield 12, 3) := by decide +kernel
theorem dX7_periods_10 : decode cX7_periods 10 = .ok (.getfield 71, 3) := by decide +kernel
theorem dX7_periods_13 : decode cX7_periods 13 = .ok (.if_icmp .ge 30, 3) := by decide +kernel
theorem dX7_periods_16 : decode cX7_periods 16 = .ok (.aload_n 0, 1) := by decide +kernel
theorem dX7_periods_17 : decode cX7_periods 17 = .ok (.getfield 12, 3) := by decide +kernel
theorem dX7_periods_20 : decode cX7_periods 20 = .ok (.iload_n 2, 1) := by decide +kernel
theorem dX7_periods_21 : decode cX7_periods 21 = .ok (.invokevirtual 149, 3) := by decide +kernel
theorem dX7_periods_24 : decode cX7_periods 24 = .ok (.astore_n 3, 1) := by decide +kernel
theorem dX7_periods_25 : decode cX7_periods 25 = .ok (.aload_n 3, 1) := by decide +kernel
theorem dX7_periods_26 : decode cX7_periods 26 = .ok (.ifnull 11, 3) := by decide +kernel
theorem dX7_periods_29 : decode cX7_periods 29 = .ok (.iload_n 1, 1) := by decide +kernel
theorem dX7_periods_30 : decode cX7_periods 30 = .ok (.aload_n 0, 1) := by decide +kernel
theorem dX7_periods_31 : decode cX7_periods 31 = .ok (.aload_n 3, 1) := by decide +kernel
theorem dX7_periods_32 : decode cX7_periods 32 = .ok (.invokevirtual 238, 3) := by decide +kernel
theorem dX7_periods_35 : decode cX7_periods 35 = .ok (.iand, 1) := by decide +kernel
theorem dX7_periods_36 : decode cX7_periods 36 = .ok (.istore_n 1, 1) := by decide +kernel
theorem dX7_periods_37 : decode cX7_periods 37 = .ok (.iinc 2 1, 3) := by decide +kernel
theorem dX7_periods_40 : decode cX7_periods 40 = .ok (.goto (-35), 3) := by decide +kernel
theorem dX7_periods_43 : decode cX7_periods 43 = .ok (.iload_n 1, 1) := by decide +kernel
theorem dX7_periods_44 : decode cX7_periods 44 = .ok (.ireturn, 1) := by decide +kernel
theorem dX7_fitting_0 : decode cX7_fitting 0 = .ok (.aload_n 0, 1) := by decide +kernel
theorem dX7_fitting_1 : decode cX7_fitting 1 = .ok (.getfield 12, 3) := by decide +kernel
theorem dX7_fitting_4 : decode cX7_fitting 4 = .ok (.iload_n 1, 1) := by decide +kernel
theorem dX7_fitting_5 : decode cX7_fitting 5 = .ok (.invokevirtual 149, 3) := by decide +kernel
theorem dX7_fitting_8 : decode cX7_fitting 8 = .ok (.astore_n 2, 1) := by decide +kernel
theorem dX7_fitting_9 : decode cX7_fitting 9 = .ok (.aload_n 2, 1) := by decide +kernel
theorem dX7_fitting_10 : decode cX7_fitting 10 = .ok (.ifnonnull 6, 3) := by decide +kernel
theorem dX7_fitting_13 : decode cX7_fitting 13 = .ok (.ldc 60, 2) := by decide +kernel
theorem dX7_fitting_15 : decode cX7_fitting 15 = .ok (.ireturn, 1) := by decide +kernel
theorem dX7_fitting_16 : decode cX7_fitting 16 = .ok (.iconst 0, 1) := by decide +kernel
theorem dX7_fitting_17 : decode cX7_fitting 17 = .ok (.istore_n 3, 1) := by decide +kernel
theorem dX7_fitting_18 : decode cX7_fitting 18 = .ok (.iconst 0, 1) := by decide +kernel
theorem dX7_fitting_19 : decode cX7_fitting 19 = .ok (.istore 4, 2) := by decide +kernel
theorem dX7_fitting_21 : decode cX7_fitting 21 = .ok (.iload 4, 2) := by decide +kernel
theorem dX7_fitting_23 : decode cX7_fitting 23 = .ok (.aload_n 0, 1) := by decide +kernel
theorem dX7_fitting_24 : decode cX7_fitting 24 = .ok (.getfield 12, 3) := by decide +kernel
theorem dX7_fitting_27 : decode cX7_fitting 27 = .ok (.iconst 0, 1) := by decide +kernel
theorem dX7_fitting_28 : decode cX7_fitting 28 = .ok (.invokevirtual 78, 3) := by decide +kernel
theorem dX7_fitting_31 : decode cX7_fitting 31 = .ok (.if_icmp .ge 59, 3) := by decide +kernel
theorem dX7_fitting_34 : decode cX7_fitting 34 = .ok (.aload_n 0, 1) := by decide +kernel
theorem dX7_fitting_35 : decode cX7_fitting 35 = .ok (.getfield 12, 3) := by decide +kernel
theorem dX7_fitting_38 : decode cX7_fitting 38 = .ok (.aload_n 2, 1) := by decide +kernel
theorem dX7_fitting_39 : decode cX7_fitting 39 = .ok (.iload 4, 2) := by decide +kernel
theorem dX7_fitting_41 : decode cX7_fitting 41 = .ok (.invokevirtual 241, 3) := by decide +kernel
theorem dX7_fitting_44 : decode cX7_fitting 44 = .ok (.istore 5, 2) := by decide +kernel
theorem dX7_fitting_46 : decode cX7_fitting 46 = .ok (.aload_n 2, 1) := by decide +kernel
theorem dX7_fitting_47 : decode cX7_fitting 47 = .ok (.getfield 158, 3) := by decide +kernel
theorem dX7_fitting_50 : decode cX7_fitting 50 = .ok (.iload 4, 2) := by decide +kernel
theorem dX7_fitting_52 : decode cX7_fitting 52 = .ok (.invokestatic 122, 3) := by decide +kernel
theorem dX7_fitting_55 : decode cX7_fitting 55 = .ok (.ifCond .ne 29, 3) := by decide +kernel
theorem dX7_fitting_58 : decode cX7_fitting 58 = .ok (.aload_n 0, 1) := by decide +kernel
theorem dX7_fitting_59 : decode cX7_fitting 59 = .ok (.aload_n 2, 1) := by decide +kernel
theorem dX7_fitting_60 : decode cX7_fitting 60 = .ok (.iload 4, 2) := by decide +kernel
theorem dX7_fitting_62 : decode cX7_fitting 62 = .ok (.aload_n 0, 1) := by decide +kernel
theorem dX7_fitting_63 : decode cX7_fitting 63 = .ok (.getfield 12, 3) := by decide +kernel
theorem dX7_fitting_66 : decode cX7_fitting 66 = .ok (.iload 5, 2) := by decide +kernel
theorem dX7_fitting_68 : decode cX7_fitting 68 = .ok (.invokevirtual 138, 3) := by decide +kernel
theorem dX7_fitting_71 : decode cX7_fitting 71 = .ok (.invokevirtual 244, 3) := by decide +kernel
theorem dX7_fitting_74 : decode cX7_fitting 74 = .ok (.ifCond .eq 10, 3) := by decide +kernel
theorem dX7_fitting_77 : decode cX7_fitting 77 = .ok (.iload_n 3, 1) := by decide +kernel
theorem dX7_fitting_78 : decode cX7_fitting 78 = .ok (.iconst 1, 1) := by decide +kernel
theorem dX7_fitting_79 : decode cX7_fitting 79 = .ok (.iload 4, 2) := by decide +kernel
theorem dX7_fitting_81 : decode cX7_fitting 81 = .ok (.ishl, 1) := by decide +kernel
theorem dX7_fitting_82 : decode cX7_fitting 82 = .ok (.ior, 1) := by decide +kernel
theorem dX7_fitting_83 : decode cX7_fitting 83 = .ok (.istore_n 3, 1) := by decide +kernel
theorem dX7_fitting_84 : decode cX7_fitting 84 = .ok (.iinc 4 1, 3) := by decide +kernel
theorem dX7_fitting_87 : decode cX7_fitting 87 = .ok (.goto (-66), 3) := by decide +kernel
theorem dX7_fitting_90 : decode cX7_fitting 90 = .ok (.iload_n 3, 1) := by decide +kernel
theorem dX7_fitting_91 : decode cX7_fitting 91 = .ok (.ireturn, 1) := by decide +kernel
theorem dX7_count_0 : decode cX7_count 0 = .ok (.iload_n 1, 1) := by decide +kernel
theorem dX7_count_1 : decode cX7_count 1 = .ok (.bipush 10, 2) := by decide +kernel
theorem dX7_count_3 : decode cX7_count 3 = .ok (.bipush 17, 2) := by decide +kernel
theorem dX7_count_5 : decode cX7_count 5 = .ok (.invokestatic 56, 3) := by decide +kernel
theorem dX7_count_8 : decode cX7_count 8 = .ok (.ifCond .eq 15, 3) := by decide +kernel
theorem dX7_count_11 : decode cX7_count 11 = .ok (.aload_n 0, 1) := by decide +kernel
theorem dX7_count_12 : decode cX7_count 12 = .ok (.getfield 12, 3) := by decide +kernel
theorem dX7_count_15 : decode cX7_count 15 = .ok (.iload_n 1, 1) := by decide +kernel
theorem dX7_count_16 : decode cX7_count 16 = .ok (.bipush 10, 2) := by decide +kernel
theorem dX7_count_18 : decode cX7_count 18 = .ok (.isub, 1) := by decide +kernel
theorem dX7_count_19 : decode cX7_count 19 = .ok (.invokevirtual 78, 3) := by decide +kernel
theorem dX7_count_22 : decode cX7_count 22 = .ok (.ireturn, 1) := by decide +kernel
theorem dX7_count_23 : decode cX7_count 23 = .ok (.iload_n 1, 1) := by decide +kernel
theorem dX7_count_24 : decode cX7_count 24 = .ok (.tableswitch 140 0 7 #[48, 56, 64, 72, 83, 91, 127, 132], 48) := by decide +kernel
theorem dX7_count_72 : decode cX7_count 72 = .ok (.aload_n 0, 1) := by decide +kernel
theorem dX7_count_73 : decode cX7_count 73 = .ok (.getfield 12, 3) := by decide +kernel
theorem dX7_count_76 : decode cX7_count 76 = .ok (.getfield 90, 3) := by decide +kernel
theorem dX7_count_79 : decode cX7_count 79 = .ok (.ireturn, 1) := by decide +kernel
theorem dX7_count_80 : decode cX7_count 80 = .ok (.aload_n 0, 1) := by decide +kernel
theorem dX7_count_81 : decode cX7_count 81 = .ok (.getfield 12, 3) := by decide +kernel
theorem dX7_count_84 : decode cX7_count 84 = .ok (.getfield 71, 3) := by decide +kernel
theorem dX7_count_87 : decode cX7_count 87 = .ok (.ireturn, 1) := by decide +kernel
theorem dX7_count_88 : decode cX7_count 88 = .ok (.aload_n 0, 1) := by decide +kernel
theorem dX7_count_89 : decode cX7_count 89 = .ok (.getfield 12, 3) := by decide +kernel
theorem dX7_count_92 : decode cX7_count 92 = .ok (.getfield 107, 3) := by decide +kernel
theorem dX7_count_95 : decode cX7_count 95 = .ok (.ireturn, 1) := by decide +kernel
theorem dX7_count_96 : decode cX7_count 96 = .ok (.aload_n 0, 1) := by decide +kernel
theorem dX7_count_97 : decode cX7_count 97 = .ok (.getfield 12, 3) := by decide +kernel
theorem dX7_count_100 : decode cX7_count 100 = .ok (.getfield 119, 3) := by decide +kernel
theorem dX7_count_103 : decode cX7_count 103 = .ok (.invokestatic 126, 3) := by decide +kernel
theorem dX7_count_106 : decode cX7_count 106 = .ok (.ireturn, 1) := by decide +kernel
theorem dX7_count_107 : decode cX7_count 107 = .ok (.aload_n 0, 1) := by decide +kernel
theorem dX7_count_108 : decode cX7_count 108 = .ok (.getfield 12, 3) := by decide +kernel
theorem dX7_count_111 : decode cX7_count 111 = .ok (.getfield 248, 3) := by decide +kernel
theorem dX7_count_114 : decode cX7_count 114 = .ok (.ireturn, 1) := by decide +kernel
theorem dX7_count_115 : decode cX7_count 115 = .ok (.aload_n 0, 1) := by decide +kernel
theorem dX7_count_116 : decode cX7_count 116 = .ok (.getfield 12, 3) := by decide +kernel
theorem dX7_count_119 : decode cX7_count 119 = .ok (.getfield 107, 3) := by decide +kernel
theorem dX7_count_122 : decode cX7_count 122 = .ok (.aload_n 0, 1) := by decide +kernel
theorem dX7_count_123 : decode cX7_count 123 = .ok (.getfield 12, 3) := by decide +kernel
theorem dX7_count_126 : decode cX7_count 126 = .ok (.iconst 5, 1) := by decide +kernel
theorem dX7_count_127 : decode cX7_count 127 = .ok (.invokevirtual 78, 3) := by decide +kernel
theorem dX7_count_130 : decode cX7_count 130 = .ok (.aload_n 0, 1) := by decide +kernel
theorem dX7_count_131 : decode cX7_count 131 = .ok (.getfield 12, 3) := by decide +kernel
theorem dX7_count_134 : decode cX7_count 134 = .ok (.bipush 6, 2) := by decide +kernel
theorem dX7_count_136 : decode cX7_count 136 = .ok (.invokevirtual 78, 3) := by decide +kernel
theorem dX7_count_139 : decode cX7_count 139 = .ok (.invokestatic 251, 3) := by decide +kernel
theorem dX7_count_142 : decode cX7_count 142 = .ok (.ifCond .eq 7, 3) := by decide +kernel
theorem dX7_count_145 : decode cX7_count 145 = .ok (.iconst 1, 1) := by decide +kernel
theorem dX7_count_146 : decode cX7_count 146 = .ok (.goto 4, 3) := by decide +kernel
theorem dX7_count_149 : decode cX7_count 149 = .ok (.iconst 0, 1) := by decide +kernel
theorem dX7_count_150 : decode cX7_count 150 = .ok (.ireturn, 1) := by decide +kernel
theorem dX7_count_151 : decode cX7_count 151 = .ok (.aload_n 0, 1) := by decide +kernel
theorem dX7_count_152 : decode cX7_count 152 = .ok (.getfield 20, 3) := by decide +kernel
theorem dX7_count_155 : decode cX7_count 155 = .ok (.ireturn, 1) := by decide +kernel
theorem dX7_count_156 : decode cX7_count 156 = .ok (.aload_n 0, 1) := by decide +kernel
theorem dX7_count_157 : decode cX7_count 157 = .ok (.getfield 27, 3) := by decide +kernel
theorem dX7_count_160 : decode cX7_count 160 = .ok (.getfield 254, 3) := by decide +kernel
theorem dX7_count_163 : decode cX7_count 163 = .ok (.ireturn, 1) := by decide +kernel
theorem dX7_count_164 : decode cX7_count 164 = .ok (.ldc 60, 2) := by decide +kernel
theorem dX7_count_166 : decode cX7_count 166 = .ok (.ireturn, 1) := by decide +kernel
theorem dX7_undo_0 : decode cX7_undo 0 = .ok (.aload_n 0, 1) := by decide +kernel
theorem dX7_undo_1 : decode cX7_undo 1 = .ok (.getfield 20, 3) := by decide +kernel
theorem dX7_undo_4 : decode cX7_undo 4 = .ok (.iconst 1, 1) := by decide +kernel
theorem dX7_undo_5 : decode cX7_undo 5 = .ok (.isub, 1) := by decide +kernel
theorem dX7_undo_6 : decode cX7_undo 6 = .ok (.istore_n 1, 1) := by decide +kernel
theorem dX7_undo_7 : decode cX7_undo 7 = .ok (.iload_n 1, 1) := by decide +kernel
theorem dX7_undo_8 : decode cX7_undo 8 = .ok (.ifCond .lt 12, 3) := by decide +kernel
theorem dX7_undo_11 : decode cX7_undo 11 = .ok (.iload_n 1, 1) := by decide +kernel
theorem dX7_undo_12 : decode cX7_undo 12 = .ok (.aload_n 0, 1) := by decide +kernel
theorem dX7_undo_13 : decode cX7_undo 13 = .ok (.getfield 16, 3) := by decide +kernel
theorem dX7_undo_16 : decode cX7_undo 16 = .ok (.arraylength, 1) := by decide +kernel
theorem dX7_undo_17 : decode cX7_undo 17 = .ok (.if_icmp .lt 6, 3) := by decide +kernel
theorem dX7_undo_20 : decode cX7_undo 20 = .ok (.ldc 74, 2) := by decide +kernel
theorem dX7_undo_22 : decode cX7_undo 22 = .ok (.ireturn, 1) := by decide +kernel
theorem dX7_undo_23 : decode cX7_undo 23 = .ok (.aload_n 0, 1) := by decide +kernel
theorem dX7_undo_24 : decode cX7_undo 24 = .ok (.getfield 12, 3) := by decide +kernel
theorem dX7_undo_27 : decode cX7_undo 27 = .ok (.aload_n 0, 1) := by decide +kernel
theorem dX7_undo_28 : decode cX7_undo 28 = .ok (.getfield 16, 3) := by decide +kernel
theorem dX7_undo_31 : decode cX7_undo 31 = .ok (.iload_n 1, 1) := by decide +kernel
theorem dX7_undo_32 : decode cX7_undo 32 = .ok (.aaload, 1) := by decide +kernel
theorem dX7_undo_33 : decode cX7_undo 33 = .ok (.invokevirtual 257, 3) := by decide +kernel
theorem dX7_undo_36 : decode cX7_undo 36 = .ok (.aload_n 0, 1) := by decide +kernel
theorem dX7_undo_37 : decode cX7_undo 37 = .ok (.iload_n 1, 1) := by decide +kernel
theorem dX7_undo_38 : decode cX7_undo 38 = .ok (.putfield 20, 3) := by decide +kernel
theorem dX7_undo_41 : decode cX7_undo 41 = .ok (.aload_n 0, 1) := by decide +kernel
theorem dX7_undo_42 : decode cX7_undo 42 = .ok (.getfield 20, 3) := by decide +kernel
theorem dX7_undo_45 : decode cX7_undo 45 = .ok (.ireturn, 1) := by decide +kernel
theorem dX7_type_0 : decode cX7_type 0 = .ok (.iload_n 1, 1) := by decide +kernel
theorem dX7_type_1 : decode cX7_type 1 = .ok (.bipush 32, 2) := by decide +kernel
theorem dX7_type_3 : decode cX7_type 3 = .ok (.bipush 126, 2) := by decide +kernel
theorem dX7_type_5 : decode cX7_type 5 = .ok (.invokestatic 56, 3) := by decide +kernel
theorem dX7_type_8 : decode cX7_type 8 = .ok (.ifCond .ne 6, 3) := by decide +kernel
theorem dX7_type_11 : decode cX7_type 11 = .ok (.ldc 60, 2) := by decide +kernel
theorem dX7_type_13 : decode cX7_type 13 = .ok (.ireturn, 1) := by decide +kernel
theorem dX7_type_14 : decode cX7_type 14 = .ok (.aload_n 0, 1) := by decide +kernel
theorem dX7_type_15 : decode cX7_type 15 = .ok (.getfield 27, 3) := by decide +kernel
theorem dX7_type_18 : decode cX7_type 18 = .ok (.iload_n 1, 1) := by decide +kernel
theorem dX7_type_19 : decode cX7_type 19 = .ok (.i2c, 1) := by decide +kernel
theorem dX7_type_20 : decode cX7_type 20 = .ok (.invokevirtual 260, 3) := by decide +kernel
theorem dX7_type_23 : decode cX7_type 23 = .ok (.ifCond .eq 13, 3) := by decide +kernel
theorem dX7_type_26 : decode cX7_type 26 = .ok (.aload_n 0, 1) := by decide +kernel
theorem dX7_type_27 : decode cX7_type 27 = .ok (.getfield 27, 3) := by decide +kernel
theorem dX7_type_30 : decode cX7_type 30 = .ok (.getfield 254, 3) := by decide +kernel
theorem dX7_type_33 : decode cX7_type 33 = .ok (.goto 5, 3) := by decide +kernel
theorem dX7_type_36 : decode cX7_type 36 = .ok (.ldc 93, 2) := by decide +kernel
theorem dX7_type_38 : decode cX7_type 38 = .ok (.ireturn, 1) := by decide +kernel
theorem dX7_clearText_0 : decode cX7_clearText 0 = .ok (.aload_n 0, 1) := by decide +kernel
theorem dX7_clearText_1 : decode cX7_clearText 1 = .ok (.getfield 27, 3) := by decide +kernel
theorem dX7_clearText_4 : decode cX7_clearText 4 = .ok (.getfield 254, 3) := by decide +kernel
theorem dX7_clearText_7 : decode cX7_clearText 7 = .ok (.istore_n 1, 1) := by decide +kernel
theorem dX7_clearText_8 : decode cX7_clearText 8 = .ok (.aload_n 0, 1) := by decide +kernel
theorem dX7_clearText_9 : decode cX7_clearText 9 = .ok (.getfield 27, 3) := by decide +kernel
theorem dX7_clearText_12 : decode cX7_clearText 12 = .ok (.iconst 0, 1) := by decide +kernel
theorem dX7_clearText_13 : decode cX7_clearText 13 = .ok (.putfield 254, 3) := by decide +kernel
theorem dX7_clearText_16 : decode cX7_clearText 16 = .ok (.iload_n 1, 1) := by decide +kernel
theorem dX7_clearText_17 : decode cX7_clearText 17 = .ok (.ireturn, 1) := by decide +kernel
theorem dX7_fault_0 : decode cX7_fault 0 = .ok (.iload_n 1, 1) := by decide +kernel
theorem dX7_fault_1 : decode cX7_fault 1 = .ok (.iconst 0, 1) := by decide +kernel
theorem dX7_fault_2 : decode cX7_fault 2 = .ok (.iconst 2, 1) := by decide +kernel
theorem dX7_fault_3 : decode cX7_fault 3 = .ok (.invokestatic 56, 3) := by decide +kernel
theorem dX7_fault_6 : decode cX7_fault 6 = .ok (.ifCond .ne 6, 3) := by decide +kernel
theorem dX7_fault_9 : decode cX7_fault 9 = .ok (.ldc 60, 2) := by decide +kernel
theorem dX7_fault_11 : decode cX7_fault 11 = .ok (.ireturn, 1) := by decide +kernel
theorem dX7_fault_12 : decode cX7_fault 12 = .ok (.aload_n 0, 1) := by decide +kernel
theorem dX7_fault_13 : decode cX7_fault 13 = .ok (.getfield 27, 3) := by decide +kernel
theorem dX7_fault_16 : decode cX7_fault 16 = .ok (.aload_n 0, 1) := by decide +kernel
theorem dX7_fault_17 : decode cX7_fault 17 = .ok (.getfield 12, 3) := by decide +kernel
theorem dX7_fault_20 : decode cX7_fault 20 = .ok (.invokevirtual 264, 3) := by decide +kernel
theorem dX7_fault_23 : decode cX7_fault 23 = .ok (.aload_n 0, 1) := by decide +kernel
theorem dX7_fault_24 : decode cX7_fault 24 = .ok (.getfield 27, 3) := by decide +kernel
theorem dX7_fault_27 : decode cX7_fault 27 = .ok (.getfield 267, 3) := by decide +kernel
theorem dX7_fault_30 : decode cX7_fault 30 = .ok (.ifCond .eq 19, 3) := by decide +kernel
theorem dX7_fault_33 : decode cX7_fault 33 = .ok (.iload_n 1, 1) := by decide +kernel
theorem dX7_fault_34 : decode cX7_fault 34 = .ok (.iconst 2, 1) := by decide +kernel
theorem dX7_fault_35 : decode cX7_fault 35 = .ok (.if_icmp .ne 17, 3) := by decide +kernel
theorem dX7_fault_38 : decode cX7_fault 38 = .ok (.aload_n 0, 1) := by decide +kernel
theorem dX7_fault_39 : decode cX7_fault 39 = .ok (.getfield 27, 3) := by decide +kernel
theorem dX7_fault_42 : decode cX7_fault 42 = .ok (.getfield 267, 3) := by decide +kernel
theorem dX7_fault_45 : decode cX7_fault 45 = .ok (.iconst 3, 1) := by decide +kernel
theorem dX7_fault_46 : decode cX7_fault 46 = .ok (.if_icmp .ne 6, 3) := by decide +kernel
theorem dX7_fault_49 : decode cX7_fault 49 = .ok (.ldc 163, 2) := by decide +kernel
theorem dX7_fault_51 : decode cX7_fault 51 = .ok (.ireturn, 1) := by decide +kernel
theorem dX7_fault_52 : decode cX7_fault 52 = .ok (.iload_n 1, 1) := by decide +kernel
theorem dX7_fault_53 : decode cX7_fault 53 = .ok (.ifCond .ne 11, 3) := by decide +kernel
theorem dX7_fault_56 : decode cX7_fault 56 = .ok (.aload_n 0, 1) := by decide +kernel
theorem dX7_fault_57 : decode cX7_fault 57 = .ok (.getfield 27, 3) := by decide +kernel
theorem dX7_fault_60 : decode cX7_fault 60 = .ok (.getfield 270, 3) := by decide +kernel
theorem dX7_fault_63 : decode cX7_fault 63 = .ok (.ireturn, 1) := by decide +kernel
theorem dX7_fault_64 : decode cX7_fault 64 = .ok (.iload_n 1, 1) := by decide +kernel
theorem dX7_fault_65 : decode cX7_fault 65 = .ok (.iconst 1, 1) := by decide +kernel
theorem dX7_fault_66 : decode cX7_fault 66 = .ok (.if_icmp .ne 13, 3) := by decide +kernel
theorem dX7_fault_69 : decode cX7_fault 69 = .ok (.aload_n 0, 1) := by decide +kernel
theorem dX7_fault_70 : decode cX7_fault 70 = .ok (.getfield 27, 3) := by decide +kernel
theorem dX7_fault_73 : decode cX7_fault 73 = .ok (.getfield 267, 3) := by decide +kernel
theorem dX7_fault_76 : decode cX7_fault 76 = .ok (.goto 10, 3) := by decide +kernel
theorem dX7_fault_79 : decode cX7_fault 79 = .ok (.aload_n 0, 1) := by decide +kernel
theorem dX7_fault_80 : decode cX7_fault 80 = .ok (.getfield 27, 3) := by decide +kernel
theorem dX7_fault_83 : decode cX7_fault 83 = .ok (.getfield 273, 3) := by decide +kernel
theorem dX7_fault_86 : decode cX7_fault 86 = .ok (.ireturn, 1) := by decide +kernel
theorem dX7_play_0 : decode cX7_play 0 = .ok (.aload_n 0, 1) := by decide +kernel
theorem dX7_play_1 : decode cX7_play 1 = .ok (.getfield 27, 3) := by decide +kernel
theorem dX7_play_4 : decode cX7_play 4 = .ok (.aload_n 0, 1) := by decide +kernel
theorem dX7_play_5 : decode cX7_play 5 = .ok (.getfield 12, 3) := by decide +kernel
theorem dX7_play_8 : decode cX7_play 8 = .ok (.invokevirtual 264, 3) := by decide +kernel
theorem dX7_play_11 : decode cX7_play 11 = .ok (.aload_n 0, 1) := by decide +kernel
theorem dX7_play_12 : decode cX7_play 12 = .ok (.getfield 27, 3) := by decide +kernel
theorem dX7_play_15 : decode cX7_play 15 = .ok (.getfield 267, 3) := by decide +kernel
theorem dX7_play_18 : decode cX7_play 18 = .ok (.ifCond .eq 6, 3) := by decide +kernel
theorem dX7_play_21 : decode cX7_play 21 = .ok (.ldc 74, 2) := by decide +kernel
theorem dX7_play_23 : decode cX7_play 23 = .ok (.ireturn, 1) := by decide +kernel
theorem dX7_play_24 : decode cX7_play 24 = .ok (.aload_n 0, 1) := by decide +kernel
theorem dX7_play_25 : decode cX7_play 25 = .ok (.invokevirtual 75, 3) := by decide +kernel
theorem dX7_play_28 : decode cX7_play 28 = .ok (.aload_n 0, 1) := by decide +kernel
theorem dX7_play_29 : decode cX7_play 29 = .ok (.getfield 27, 3) := by decide +kernel
theorem dX7_play_32 : decode cX7_play 32 = .ok (.getfield 276, 3) := by decide +kernel
theorem dX7_play_35 : decode cX7_play 35 = .ok (.astore_n 1, 1) := by decide +kernel
theorem dX7_play_36 : decode cX7_play 36 = .ok (.iconst 0, 1) := by decide +kernel
theorem dX7_play_37 : decode cX7_play 37 = .ok (.istore_n 2, 1) := by decide +kernel
theorem dX7_play_38 : decode cX7_play 38 = .ok (.iconst 0, 1) := by decide +kernel
theorem dX7_play_39 : decode cX7_play 39 = .ok (.istore_n 3, 1) := by decide +kernel
theorem dX7_play_40 : decode cX7_play 40 = .ok (.iload_n 3, 1) := by decide +kernel
theorem dX7_play_41 : decode cX7_play 41 = .ok (.aload_n 0, 1) := by decide +kernel
theorem dX7_play_42 : decode cX7_play 42 = .ok (.getfield 27, 3) := by decide +kernel
theorem dX7_play_45 : decode cX7_play 45 = .ok (.getfield 280, 3) := by decide +kernel
theorem dX7_play_48 : decode cX7_play 48 = .ok (.if_icmp .ge 35, 3) := by decide +kernel
theorem dX7_play_51 : decode cX7_play 51 = .ok (.aload_n 1, 1) := by decide +kernel
theorem dX7_play_52 : decode cX7_play 52 = .ok (.aload_n 0, 1) := by decide +kernel
theorem dX7_play_53 : decode cX7_play 53 = .ok (.getfield 27, 3) := by decide +kernel
theorem dX7_play_56 : decode cX7_play 56 = .ok (.iload_n 2, 1) := by decide +kernel
theorem dX7_play_57 : decode cX7_play 57 = .ok (.invokevirtual 283, 3) := by decide +kernel
theorem dX7_play_60 : decode cX7_play 60 = .ok (.aload_n 1, 1) := by decide +kernel
theorem dX7_play_61 : decode cX7_play 61 = .ok (.aload_n 0, 1) := by decide +kernel
theorem dX7_play_62 : decode cX7_play 62 = .ok (.getfield 12, 3) := by decide +kernel
theorem dX7_play_65 : decode cX7_play 65 = .ok (.aload_n 0, 1) := by decide +kernel
theorem dX7_play_66 : decode cX7_play 66 = .ok (.getfield 52, 3) := by decide +kernel
theorem dX7_play_69 : decode cX7_play 69 = .ok (.invokevirtual 289, 3) := by decide +kernel
theorem dX7_play_72 : decode cX7_play 72 = .ok (.aload_n 1, 1) := by decide +kernel
theorem dX7_play_73 : decode cX7_play 73 = .ok (.getfield 293, 3) := by decide +kernel
theorem dX7_play_76 : decode cX7_play 76 = .ok (.istore_n 2, 1) := by decide +kernel
theorem dX7_play_77 : decode cX7_play 77 = .ok (.iinc 3 1, 3) := by decide +kernel
theorem dX7_play_80 : decode cX7_play 80 = .ok (.goto (-40), 3) := by decide +kernel
theorem dX7_play_83 : decode cX7_play 83 = .ok (.aload_n 0, 1) := by decide +kernel
theorem dX7_play_84 : decode cX7_play 84 = .ok (.getfield 27, 3) := by decide +kernel
theorem dX7_play_87 : decode cX7_play 87 = .ok (.getfield 280, 3) := by decide +kernel
theorem dX7_play_90 : decode cX7_play 90 = .ok (.ireturn, 1) := by decide +kernel
theorem dX7_recordState_0 : decode cX7_recordState 0 = .ok (.aload_n 0, 1) := by decide +kernel
theorem dX7_recordState_1 : decode cX7_recordState 1 = .ok (.getfield 20, 3) := by decide +kernel
theorem dX7_recordState_4 : decode cX7_recordState 4 = .ok (.aload_n 0, 1) := by decide +kernel
theorem dX7_recordState_5 : decode cX7_recordState 5 = .ok (.getfield 16, 3) := by decide +kernel
theorem dX7_recordState_8 : decode cX7_recordState 8 = .ok (.arraylength, 1) := by decide +kernel
theorem dX7_recordState_9 : decode cX7_recordState 9 = .ok (.if_icmp .lt 65, 3) := by decide +kernel
theorem dX7_recordState_12 : decode cX7_recordState 12 = .ok (.aload_n 0, 1) := by decide +kernel
theorem dX7_recordState_13 : decode cX7_recordState 13 = .ok (.getfield 16, 3) := by decide +kernel
theorem dX7_recordState_16 : decode cX7_recordState 16 = .ok (.iconst 0, 1) := by decide +kernel
theorem dX7_recordState_17 : decode cX7_recordState 17 = .ok (.aaload, 1) := by decide +kernel
theorem dX7_recordState_18 : decode cX7_recordState 18 = .ok (.astore_n 1, 1) := by decide +kernel
theorem dX7_recordState_19 : decode cX7_recordState 19 = .ok (.iconst 1, 1) := by decide +kernel
theorem dX7_recordState_20 : decode cX7_recordState 20 = .ok (.istore_n 2, 1) := by decide +kernel
theorem dX7_recordState_21 : decode cX7_recordState 21 = .ok (.iload_n 2, 1) := by decide +kernel
theorem dX7_recordState_22 : decode cX7_recordState 22 = .ok (.aload_n 0, 1) := by decide +kernel
theorem dX7_recordState_23 : decode cX7_recordState 23 = .ok (.getfield 16, 3) := by decide +kernel
theorem dX7_recordState_26 : decode cX7_recordState 26 = .ok (.arraylength, 1) := by decide +kernel
theorem dX7_recordState_27 : decode cX7_recordState 27 = .ok (.if_icmp .ge 23, 3) := by decide +kernel
theorem dX7_recordState_30 : decode cX7_recordState 30 = .ok (.aload_n 0, 1) := by decide +kernel
theorem dX7_recordState_31 : decode cX7_recordState 31 = .ok (.getfield 16, 3) := by decide +kernel
theorem dX7_recordState_34 : decode cX7_recordState 34 = .ok (.iload_n 2, 1) := by decide +kernel
theorem dX7_recordState_35 : decode cX7_recordState 35 = .ok (.iconst 1, 1) := by decide +kernel
theorem dX7_recordState_36 : decode cX7_recordState 36 = .ok (.isub, 1) := by decide +kernel
theorem dX7_recordState_37 : decode cX7_recordState 37 = .ok (.aload_n 0, 1) := by decide +kernel
theorem dX7_recordState_38 : decode cX7_recordState 38 = .ok (.getfield 16, 3) := by decide +kernel
theorem dX7_recordState_41 : decode cX7_recordState 41 = .ok (.iload_n 2, 1) := by decide +kernel
theorem dX7_recordState_42 : decode cX7_recordState 42 = .ok (.aaload, 1) := by decide +kernel
theorem dX7_recordState_43 : decode cX7_recordState 43 = .ok (.aastore, 1) := by decide +kernel
theorem dX7_recordState_44 : decode cX7_recordState 44 = .ok (.iinc 2 1, 3) := by decide +kernel
theorem dX7_recordState_47 : decode cX7_recordState 47 = .ok (.goto (-26), 3) := by decide +kernel
theorem dX7_recordState_50 : decode cX7_recordState 50 = .ok (.aload_n 0, 1) := by decide +kernel
theorem dX7_recordState_51 : decode cX7_recordState 51 = .ok (.getfield 16, 3) := by decide +kernel
theorem dX7_recordState_54 : decode cX7_recordState 54 = .ok (.aload_n 0, 1) := by decide +kernel
theorem dX7_recordState_55 : decode cX7_recordState 55 = .ok (.getfield 16, 3) := by decide +kernel
theorem dX7_recordState_58 : decode cX7_recordState 58 = .ok (.arraylength, 1) := by decide +kernel
theorem dX7_recordState_59 : decode cX7_recordState 59 = .ok (.iconst 1, 1) := by decide +kernel
theorem dX7_recordState_60 : decode cX7_recordState 60 = .ok (.isub, 1) := by decide +kernel
theorem dX7_recordState_61 : decode cX7_recordState 61 = .ok (.aload_n 1, 1) := by decide +kernel
theorem dX7_recordState_62 : decode cX7_recordState 62 = .ok (.aastore, 1) := by decide +kernel
theorem dX7_recordState_63 : decode cX7_recordState 63 = .ok (.aload_n 0, 1) := by decide +kernel
theorem dX7_recordState_64 : decode cX7_recordState 64 = .ok (.aload_n 0, 1) := by decide +kernel
theorem dX7_recordState_65 : decode cX7_recordState 65 = .ok (.getfield 16, 3) := by decide +kernel
theorem dX7_recordState_68 : decode cX7_recordState 68 = .ok (.arraylength, 1) := by decide +kernel
theorem dX7_recordState_69 : decode cX7_recordState 69 = .ok (.iconst 1, 1) := by decide +kernel
theorem dX7_recordState_70 : decode cX7_recordState 70 = .ok (.isub, 1) := by decide +kernel
theorem dX7_recordState_71 : decode cX7_recordState 71 = .ok (.putfield 20, 3) := by decide +kernel
theorem dX7_recordState_74 : decode cX7_recordState 74 = .ok (.aload_n 0, 1) := by decide +kernel
theorem dX7_recordState_75 : decode cX7_recordState 75 = .ok (.getfield 16, 3) := by decide +kernel
theorem dX7_recordState_78 : decode cX7_recordState 78 = .ok (.aload_n 0, 1) := by decide +kernel
theorem dX7_recordState_79 : decode cX7_recordState 79 = .ok (.getfield 20, 3) := by decide +kernel
theorem dX7_recordState_82 : decode cX7_recordState 82 = .ok (.aaload, 1) := by decide +kernel
theorem dX7_recordState_83 : decode cX7_recordState 83 = .ok (.astore_n 1, 1) := by decide +kernel
theorem dX7_recordState_84 : decode cX7_recordState 84 = .ok (.aload_n 1, 1) := by decide +kernel
theorem dX7_recordState_85 : decode cX7_recordState 85 = .ok (.ifnull 21, 3) := by decide +kernel
theorem dX7_recordState_88 : decode cX7_recordState 88 = .ok (.aload_n 1, 1) := by decide +kernel
theorem dX7_recordState_89 : decode cX7_recordState 89 = .ok (.aload_n 0, 1) := by decide +kernel
theorem dX7_recordState_90 : decode cX7_recordState 90 = .ok (.getfield 12, 3) := by decide +kernel
theorem dX7_recordState_93 : decode cX7_recordState 93 = .ok (.invokevirtual 257, 3) := by decide +kernel
theorem dX7_recordState_96 : decode cX7_recordState 96 = .ok (.aload_n 0, 1) := by decide +kernel
theorem dX7_recordState_97 : decode cX7_recordState 97 = .ok (.dup, 1) := by decide +kernel
theorem dX7_recordState_98 : decode cX7_recordState 98 = .ok (.getfield 20, 3) := by decide +kernel
theorem dX7_recordState_101 : decode cX7_recordState 101 = .ok (.iconst 1, 1) := by decide +kernel
theorem dX7_recordState_102 : decode cX7_recordState 102 = .ok (.iadd, 1) := by decide +kernel
theorem dX7_recordState_103 : decode cX7_recordState 103 = .ok (.putfield 20, 3) := by decide +kernel
theorem dX7_recordState_106 : decode cX7_recordState 106 = .ok (.return_, 1) := by decide +kernel
theorem dX7_isPlace_0 : decode cX7_isPlace 0 = .ok (.iload_n 1, 1) := by decide +kernel
theorem dX7_isPlace_1 : decode cX7_isPlace 1 = .ok (.iconst 0, 1) := by decide +kernel
theorem dX7_isPlace_2 : decode cX7_isPlace 2 = .ok (.aload_n 0, 1) := by decide +kernel
theorem dX7_isPlace_3 : decode cX7_isPlace 3 = .ok (.getfield 12, 3) := by decide +kernel
theorem dX7_isPlace_6 : decode cX7_isPlace 6 = .ok (.iconst 0, 1) := by decide +kernel
theorem dX7_isPlace_7 : decode cX7_isPlace 7 = .ok (.invokevirtual 78, 3) := by decide +kernel
theorem dX7_isPlace_10 : decode cX7_isPlace 10 = .ok (.iconst 1, 1) := by decide +kernel
theorem dX7_isPlace_11 : decode cX7_isPlace 11 = .ok (.isub, 1) := by decide +kernel
theorem dX7_isPlace_12 : decode cX7_isPlace 12 = .ok (.invokestatic 56, 3) := by decide +kernel
theorem dX7_isPlace_15 : decode cX7_isPlace 15 = .ok (.ifCond .eq 25, 3) := by decide +kernel
theorem dX7_isPlace_18 : decode cX7_isPlace 18 = .ok (.iload_n 2, 1) := by decide +kernel
theorem dX7_isPlace_19 : decode cX7_isPlace 19 = .ok (.iconst 0, 1) := by decide +kernel
theorem dX7_isPlace_20 : decode cX7_isPlace 20 = .ok (.aload_n 0, 1) := by decide +kernel
theorem dX7_isPlace_21 : decode cX7_isPlace 21 = .ok (.getfield 12, 3) := by decide +kernel
theorem dX7_isPlace_24 : decode cX7_isPlace 24 = .ok (.iconst 1, 1) := by decide +kernel
theorem dX7_isPlace_25 : decode cX7_isPlace 25 = .ok (.invokevirtual 78, 3) := by decide +kernel
theorem dX7_isPlace_28 : decode cX7_isPlace 28 = .ok (.iconst 1, 1) := by decide +kernel
theorem dX7_isPlace_29 : decode cX7_isPlace 29 = .ok (.isub, 1) := by decide +kernel
theorem dX7_isPlace_30 : decode cX7_isPlace 30 = .ok (.invokestatic 56, 3) := by decide +kernel
theorem dX7_isPlace_33 : decode cX7_isPlace 33 = .ok (.ifCond .eq 7, 3) := by decide +kernel
theorem dX7_isPlace_36 : decode cX7_isPlace 36 = .ok (.iconst 1, 1) := by decide +kernel
theorem dX7_isPlace_37 : decode cX7_isPlace 37 = .ok (.goto 4, 3) := by decide +kernel
theorem dX7_isPlace_40 : decode cX7_isPlace 40 = .ok (.iconst 0, 1) := by decide +kernel
theorem dX7_isPlace_41 : decode cX7_isPlace 41 = .ok (.ireturn, 1) := by decide +kernel
theorem dX7_isPair_0 : decode cX7_isPair 0 = .ok (.iload_n 1, 1) := by decide +kernel
theorem dX7_isPair_1 : decode cX7_isPair 1 = .ok (.iload_n 2, 1) := by decide +kernel
theorem dX7_isPair_2 : decode cX7_isPair 2 = .ok (.if_icmp .eq 29, 3) := by decide +kernel
theorem dX7_isPair_5 : decode cX7_isPair 5 = .ok (.aload_n 0, 1) := by decide +kernel
theorem dX7_isPair_6 : decode cX7_isPair 6 = .ok (.getfield 12, 3) := by decide +kernel
theorem dX7_isPair_9 : decode cX7_isPair 9 = .ok (.iload_n 1, 1) := by decide +kernel
theorem dX7_isPair_10 : decode cX7_isPair 10 = .ok (.invokevirtual 149, 3) := by decide +kernel
theorem dX7_isPair_13 : decode cX7_isPair 13 = .ok (.ifnull 18, 3) := by decide +kernel
theorem dX7_isPair_16 : decode cX7_isPair 16 = .ok (.aload_n 0, 1) := by decide +kernel
theorem dX7_isPair_17 : decode cX7_isPair 17 = .ok (.getfield 12, 3) := by decide +kernel
theorem dX7_isPair_20 : decode cX7_isPair 20 = .ok (.iload_n 2, 1) := by decide +kernel
theorem dX7_isPair_21 : decode cX7_isPair 21 = .ok (.invokevirtual 149, 3) := by decide +kernel
theorem dX7_isPair_24 : decode cX7_isPair 24 = .ok (.ifnull 7, 3) := by decide +kernel
theorem dX7_isPair_27 : decode cX7_isPair 27 = .ok (.iconst 1, 1) := by decide +kernel
theorem dX7_isPair_28 : decode cX7_isPair 28 = .ok (.goto 4, 3) := by decide +kernel
theorem dX7_isPair_31 : decode cX7_isPair 31 = .ok (.iconst 0, 1) := by decide +kernel
theorem dX7_isPair_32 : decode cX7_isPair 32 = .ok (.ireturn, 1) := by decide +kernel
theorem dX7_voteOn_0 : decode cX7_voteOn 0 = .ok (.aload_n 0, 1) := by decide +kernel
theorem dX7_voteOn_1 : decode cX7_voteOn 1 = .ok (.getfield 34, 3) := by decide +kernel
theorem dX7_voteOn_4 : decode cX7_voteOn 4 = .ok (.aload_n 0, 1) := by decide +kernel
theorem dX7_voteOn_5 : decode cX7_voteOn 5 = .ok (.getfield 12, 3) := by decide +kernel
theorem dX7_voteOn_8 : decode cX7_voteOn 8 = .ok (.aload_n 0, 1) := by decide +kernel
theorem dX7_voteOn_9 : decode cX7_voteOn 9 = .ok (.getfield 12, 3) := by decide +kernel
theorem dX7_voteOn_12 : decode cX7_voteOn 12 = .ok (.iload_n 1, 1) := by decide +kernel
theorem dX7_voteOn_13 : decode cX7_voteOn 13 = .ok (.invokevirtual 149, 3) := by decide +kernel
theorem dX7_voteOn_16 : decode cX7_voteOn 16 = .ok (.invokevirtual 210, 3) := by decide +kernel
theorem dX7_voteOn_19 : decode cX7_voteOn 19 = .ok (.aload_n 0, 1) := by decide +kernel
theorem dX7_voteOn_20 : decode cX7_voteOn 20 = .ok (.getfield 34, 3) := by decide +kernel
theorem dX7_voteOn_23 : decode cX7_voteOn 23 = .ok (.aload_n 0, 1) := by decide +kernel
theorem dX7_voteOn_24 : decode cX7_voteOn 24 = .ok (.getfield 12, 3) := by decide +kernel
theorem dX7_voteOn_27 : decode cX7_voteOn 27 = .ok (.aload_n 0, 1) := by decide +kernel
theorem dX7_voteOn_28 : decode cX7_voteOn 28 = .ok (.getfield 12, 3) := by decide +kernel
theorem dX7_voteOn_31 : decode cX7_voteOn 31 = .ok (.iload_n 2, 1) := by decide +kernel
theorem dX7_voteOn_32 : decode cX7_voteOn 32 = .ok (.invokevirtual 149, 3) := by decide +kernel
theorem dX7_voteOn_35 : decode cX7_voteOn 35 = .ok (.invokevirtual 217, 3) := by decide +kernel
theorem dX7_voteOn_38 : decode cX7_voteOn 38 = .ok (.aload_n 0, 1) := by decide +kernel
theorem dX7_voteOn_39 : decode cX7_voteOn 39 = .ok (.getfield 34, 3) := by decide +kernel
theorem dX7_voteOn_42 : decode cX7_voteOn 42 = .ok (.invokevirtual 220, 3) := by decide +kernel
theorem dX7_voteOn_45 : decode cX7_voteOn 45 = .ok (.return_, 1) := by decide +kernel
theorem dX7_edgeCountOf_0 : decode cX7_edgeCountOf 0 = .ok (.iconst 0, 1) := by decide +kernel
theorem dX7_edgeCountOf_1 : decode cX7_edgeCountOf 1 = .ok (.istore_n 2, 1) := by decide +kernel
theorem dX7_edgeCountOf_2 : decode cX7_edgeCountOf 2 = .ok (.iconst 0, 1) := by decide +kernel
theorem dX7_edgeCountOf_3 : decode cX7_edgeCountOf 3 = .ok (.istore_n 3, 1) := by decide +kernel
theorem dX7_edgeCountOf_4 : decode cX7_edgeCountOf 4 = .ok (.iload_n 3, 1) := by decide +kernel
theorem dX7_edgeCountOf_5 : decode cX7_edgeCountOf 5 = .ok (.aload_n 0, 1) := by decide +kernel
theorem dX7_edgeCountOf_6 : decode cX7_edgeCountOf 6 = .ok (.getfield 12, 3) := by decide +kernel
theorem dX7_edgeCountOf_9 : decode cX7_edgeCountOf 9 = .ok (.iconst 0, 1) := by decide +kernel
theorem dX7_edgeCountOf_10 : decode cX7_edgeCountOf 10 = .ok (.invokevirtual 78, 3) := by decide +kernel
theorem dX7_edgeCountOf_13 : decode cX7_edgeCountOf 13 = .ok (.if_icmp .ge 24, 3) := by decide +kernel
theorem dX7_edgeCountOf_16 : decode cX7_edgeCountOf 16 = .ok (.iload_n 2, 1) := by decide +kernel
theorem dX7_edgeCountOf_17 : decode cX7_edgeCountOf 17 = .ok (.aload_n 0, 1) := by decide +kernel
theorem dX7_edgeCountOf_18 : decode cX7_edgeCountOf 18 = .ok (.getfield 12, 3) := by decide +kernel
theorem dX7_edgeCountOf_21 : decode cX7_edgeCountOf 21 = .ok (.aload_n 1, 1) := by decide +kernel
theorem dX7_edgeCountOf_22 : decode cX7_edgeCountOf 22 = .ok (.iload_n 3, 1) := by decide +kernel
theorem dX7_edgeCountOf_23 : decode cX7_edgeCountOf 23 = .ok (.invokevirtual 167, 3) := by decide +kernel
theorem dX7_edgeCountOf_26 : decode cX7_edgeCountOf 26 = .ok (.invokestatic 126, 3) := by decide +kernel
theorem dX7_edgeCountOf_29 : decode cX7_edgeCountOf 29 = .ok (.iadd, 1) := by decide +kernel
theorem dX7_edgeCountOf_30 : decode cX7_edgeCountOf 30 = .ok (.istore_n 2, 1) := by decide +kernel
theorem dX7_edgeCountOf_31 : decode cX7_edgeCountOf 31 = .ok (.iinc 3 1, 3) := by decide +kernel
theorem dX7_edgeCountOf_34 : decode cX7_edgeCountOf 34 = .ok (.goto (-30), 3) := by decide +kernel
theorem dX7_edgeCountOf_37 : decode cX7_edgeCountOf 37 = .ok (.iload_n 2, 1) := by decide +kernel
theorem dX7_edgeCountOf_38 : decode cX7_edgeCountOf 38 = .ok (.ireturn, 1) := by decide +kernel
theorem dX7_rowFits_0 : decode cX7_rowFits 0 = .ok (.aload_n 0, 1) := by decide +kernel
theorem dX7_rowFits_1 : decode cX7_rowFits 1 = .ok (.getfield 12, 3) := by decide +kernel
theorem dX7_rowFits_4 : decode cX7_rowFits 4 = .ok (.iload_n 2, 1) := by decide +kernel
theorem dX7_rowFits_5 : decode cX7_rowFits 5 = .ok (.aload_n 0, 1) := by decide +kernel
theorem dX7_rowFits_6 : decode cX7_rowFits 6 = .ok (.getfield 12, 3) := by decide +kernel
theorem dX7_rowFits_9 : decode cX7_rowFits 9 = .ok (.aload_n 1, 1) := by decide +kernel
theorem dX7_rowFits_10 : decode cX7_rowFits 10 = .ok (.iload_n 2, 1) := by decide +kernel
theorem dX7_rowFits_11 : decode cX7_rowFits 11 = .ok (.invokevirtual 241, 3) := by decide +kernel
theorem dX7_rowFits_14 : decode cX7_rowFits 14 = .ok (.iconst (-1), 1) := by decide +kernel
theorem dX7_rowFits_15 : decode cX7_rowFits 15 = .ok (.iconst 0, 1) := by decide +kernel
theorem dX7_rowFits_16 : decode cX7_rowFits 16 = .ok (.aload_n 0, 1) := by decide +kernel
theorem dX7_rowFits_17 : decode cX7_rowFits 17 = .ok (.getfield 52, 3) := by decide +kernel
theorem dX7_rowFits_20 : decode cX7_rowFits 20 = .ok (.invokevirtual 134, 3) := by decide +kernel
theorem dX7_rowFits_23 : decode cX7_rowFits 23 = .ok (.iconst 0, 1) := by decide +kernel
theorem dX7_rowFits_24 : decode cX7_rowFits 24 = .ok (.istore 4, 2) := by decide +kernel
theorem dX7_rowFits_26 : decode cX7_rowFits 26 = .ok (.iload 4, 2) := by decide +kernel
theorem dX7_rowFits_28 : decode cX7_rowFits 28 = .ok (.aload_n 0, 1) := by decide +kernel
theorem dX7_rowFits_29 : decode cX7_rowFits 29 = .ok (.getfield 12, 3) := by decide +kernel
theorem dX7_rowFits_32 : decode cX7_rowFits 32 = .ok (.iconst 1, 1) := by decide +kernel
theorem dX7_rowFits_33 : decode cX7_rowFits 33 = .ok (.invokevirtual 78, 3) := by decide +kernel
theorem dX7_rowFits_36 : decode cX7_rowFits 36 = .ok (.if_icmp .ge 34, 3) := by decide +kernel
theorem dX7_rowFits_39 : decode cX7_rowFits 39 = .ok (.aload_n 1, 1) := by decide +kernel
theorem dX7_rowFits_40 : decode cX7_rowFits 40 = .ok (.iload_n 2, 1) := by decide +kernel
theorem dX7_rowFits_41 : decode cX7_rowFits 41 = .ok (.iload 4, 2) := by decide +kernel
theorem dX7_rowFits_43 : decode cX7_rowFits 43 = .ok (.invokevirtual 164, 3) := by decide +kernel
theorem dX7_rowFits_46 : decode cX7_rowFits 46 = .ok (.aload_n 0, 1) := by decide +kernel
theorem dX7_rowFits_47 : decode cX7_rowFits 47 = .ok (.getfield 52, 3) := by decide +kernel
theorem dX7_rowFits_50 : decode cX7_rowFits 50 = .ok (.iload 4, 2) := by decide +kernel
theorem dX7_rowFits_52 : decode cX7_rowFits 52 = .ok (.invokestatic 64, 3) := by decide +kernel
theorem dX7_rowFits_55 : decode cX7_rowFits 55 = .ok (.iload_n 3, 1) := by decide +kernel
theorem dX7_rowFits_56 : decode cX7_rowFits 56 = .ok (.invokestatic 141, 3) := by decide +kernel
theorem dX7_rowFits_59 : decode cX7_rowFits 59 = .ok (.if_icmp .eq 5, 3) := by decide +kernel
theorem dX7_rowFits_62 : decode cX7_rowFits 62 = .ok (.iconst 0, 1) := by decide +kernel
theorem dX7_rowFits_63 : decode cX7_rowFits 63 = .ok (.ireturn, 1) := by decide +kernel
theorem dX7_rowFits_64 : decode cX7_rowFits 64 = .ok (.iinc 4 1, 3) := by decide +kernel
theorem dX7_rowFits_67 : decode cX7_rowFits 67 = .ok (.goto (-41), 3) := by decide +kernel
theorem dX7_rowFits_70 : decode cX7_rowFits 70 = .ok (.iconst 1, 1) := by decide +kernel
theorem dX7_rowFits_71 : decode cX7_rowFits 71 = .ok (.ireturn, 1) := by decide +kernel
theorem dX7_periodsFitting_0 : decode cX7_periodsFitting 0 = .ok (.ldc 237, 2) := by decide +kernel
theorem dX7_periodsFitting_2 : decode cX7_periodsFitting 2 = .ok (.istore_n 2, 1) := by decide +kernel
theorem dX7_periodsFitting_3 : decode cX7_periodsFitting 3 = .ok (.iconst 0, 1) := by decide +kernel
theorem dX7_periodsFitting_4 : decode cX7_periodsFitting 4 = .ok (.istore_n 3, 1) := by decide +kernel
theorem dX7_periodsFitting_5 : decode cX7_periodsFitting 5 = .ok (.iload_n 3, 1) := by decide +kernel
theorem dX7_periodsFitting_6 : decode cX7_periodsFitting 6 = .ok (.aload_n 0, 1) := by decide +kernel
theorem dX7_periodsFitting_7 : decode cX7_periodsFitting 7 = .ok (.getfield 12, 3) := by decide +kernel
theorem dX7_periodsFitting_10 : decode cX7_periodsFitting 10 = .ok (.iconst 0, 1) := by decide +kernel
theorem dX7_periodsFitting_11 : decode cX7_periodsFitting 11 = .ok (.invokevirtual 78, 3) := by decide +kernel
theorem dX7_periodsFitting_14 : decode cX7_periodsFitting 14 = .ok (.if_icmp .ge 90, 3) := by decide +kernel
theorem dX7_periodsFitting_17 : decode cX7_periodsFitting 17 = .ok (.aload_n 1, 1) := by decide +kernel
theorem dX7_periodsFitting_18 : decode cX7_periodsFitting 18 = .ok (.getfield 158, 3) := by decide +kernel
theorem dX7_periodsFitting_21 : decode cX7_periodsFitting 21 = .ok (.iload_n 3, 1) := by decide +kernel
theorem dX7_periodsFitting_22 : decode cX7_periodsFitting 22 = .ok (.invokestatic 122, 3) := by decide +kernel
theorem dX7_periodsFitting_25 : decode cX7_periodsFitting 25 = .ok (.ifCond .ne 73, 3) := by decide +kernel
theorem dX7_periodsFitting_28 : decode cX7_periodsFitting 28 = .ok (.aload_n 0, 1) := by decide +kernel
theorem dX7_periodsFitting_29 : decode cX7_periodsFitting 29 = .ok (.aload_n 0, 1) := by decide +kernel
theorem dX7_periodsFitting_30 : decode cX7_periodsFitting 30 = .ok (.getfield 12, 3) := by decide +kernel
theorem dX7_periodsFitting_33 : decode cX7_periodsFitting 33 = .ok (.aload_n 1, 1) := by decide +kernel
theorem dX7_periodsFitting_34 : decode cX7_periodsFitting 34 = .ok (.iload_n 3, 1) := by decide +kernel
theorem dX7_periodsFitting_35 : decode cX7_periodsFitting 35 = .ok (.invokevirtual 241, 3) := by decide +kernel
theorem dX7_periodsFitting_38 : decode cX7_periodsFitting 38 = .ok (.invokevirtual 296, 3) := by decide +kernel
theorem dX7_periodsFitting_41 : decode cX7_periodsFitting 41 = .ok (.istore 4, 2) := by decide +kernel
theorem dX7_periodsFitting_43 : decode cX7_periodsFitting 43 = .ok (.aload_n 0, 1) := by decide +kernel
theorem dX7_periodsFitting_44 : decode cX7_periodsFitting 44 = .ok (.aload_n 1, 1) := by decide +kernel
theorem dX7_periodsFitting_45 : decode cX7_periodsFitting 45 = .ok (.iload_n 3, 1) := by decide +kernel
theorem dX7_periodsFitting_46 : decode cX7_periodsFitting 46 = .ok (.aload_n 0, 1) := by decide +kernel
theorem dX7_periodsFitting_47 : decode cX7_periodsFitting 47 = .ok (.getfield 12, 3) := by decide +kernel
theorem dX7_periodsFitting_50 : decode cX7_periodsFitting 50 = .ok (.bipush 7, 2) := by decide +kernel
theorem dX7_periodsFitting_52 : decode cX7_periodsFitting 52 = .ok (.invokevirtual 78, 3) := by decide +kernel
theorem dX7_periodsFitting_55 : decode cX7_periodsFitting 55 = .ok (.invokevirtual 244, 3) := by decide +kernel
theorem dX7_periodsFitting_58 : decode cX7_periodsFitting 58 = .ok (.ifCond .eq 8, 3) := by decide +kernel
theorem dX7_periodsFitting_61 : decode cX7_periodsFitting 61 = .ok (.iload 4, 2) := by decide +kernel
theorem dX7_periodsFitting_63 : decode cX7_periodsFitting 63 = .ok (.goto 4, 3) := by decide +kernel
theorem dX7_periodsFitting_66 : decode cX7_periodsFitting 66 = .ok (.iconst 0, 1) := by decide +kernel
theorem dX7_periodsFitting_67 : decode cX7_periodsFitting 67 = .ok (.istore 5, 2) := by decide +kernel
theorem dX7_periodsFitting_69 : decode cX7_periodsFitting 69 = .ok (.aload_n 0, 1) := by decide +kernel
theorem dX7_periodsFitting_70 : decode cX7_periodsFitting 70 = .ok (.aload_n 1, 1) := by decide +kernel
theorem dX7_periodsFitting_71 : decode cX7_periodsFitting 71 = .ok (.iload_n 3, 1) := by decide +kernel
theorem dX7_periodsFitting_72 : decode cX7_periodsFitting 72 = .ok (.bipush 100, 2) := by decide +kernel
theorem dX7_periodsFitting_74 : decode cX7_periodsFitting 74 = .ok (.invokevirtual 244, 3) := by decide +kernel
theorem dX7_periodsFitting_77 : decode cX7_periodsFitting 77 = .ok (.ifCond .eq 10, 3) := by decide +kernel
theorem dX7_periodsFitting_80 : decode cX7_periodsFitting 80 = .ok (.iload 4, 2) := by decide +kernel
theorem dX7_periodsFitting_82 : decode cX7_periodsFitting 82 = .ok (.iconst (-1), 1) := by decide +kernel
theorem dX7_periodsFitting_83 : decode cX7_periodsFitting 83 = .ok (.ixor, 1) := by decide +kernel
theorem dX7_periodsFitting_84 : decode cX7_periodsFitting 84 = .ok (.goto 4, 3) := by decide +kernel
theorem dX7_periodsFitting_87 : decode cX7_periodsFitting 87 = .ok (.iconst 0, 1) := by decide +kernel
theorem dX7_periodsFitting_88 : decode cX7_periodsFitting 88 = .ok (.istore 6, 2) := by decide +kernel
theorem dX7_periodsFitting_90 : decode cX7_periodsFitting 90 = .ok (.iload_n 2, 1) := by decide +kernel
theorem dX7_periodsFitting_91 : decode cX7_periodsFitting 91 = .ok (.iload 5, 2) := by decide +kernel
theorem dX7_periodsFitting_93 : decode cX7_periodsFitting 93 = .ok (.iload 6, 2) := by decide +kernel
theorem dX7_periodsFitting_95 : decode cX7_periodsFitting 95 = .ok (.ior, 1) := by decide +kernel
theorem dX7_periodsFitting_96 : decode cX7_periodsFitting 96 = .ok (.iand, 1) := by decide +kernel
theorem dX7_periodsFitting_97 : decode cX7_periodsFitting 97 = .ok (.istore_n 2, 1) := by decide +kernel
theorem dX7_periodsFitting_98 : decode cX7_periodsFitting 98 = .ok (.iinc 3 1, 3) := by decide +kernel
theorem dX7_periodsFitting_101 : decode cX7_periodsFitting 101 = .ok (.goto (-96), 3) := by decide +kernel
theorem dX7_periodsFitting_104 : decode cX7_periodsFitting 104 = .ok (.iload_n 2, 1) := by decide +kernel
theorem dX7_periodsFitting_105 : decode cX7_periodsFitting 105 = .ok (.ireturn, 1) := by decide +kernel
theorem dX7_darkPeriods_0 : decode cX7_darkPeriods 0 = .ok (.iconst 0, 1) := by decide +kernel
theorem dX7_darkPeriods_1 : decode cX7_darkPeriods 1 = .ok (.istore_n 2, 1) := by decide +kernel
theorem dX7_darkPeriods_2 : decode cX7_darkPeriods 2 = .ok (.iconst 0, 1) := by decide +kernel
theorem dX7_darkPeriods_3 : decode cX7_darkPeriods 3 = .ok (.istore_n 3, 1) := by decide +kernel
theorem dX7_darkPeriods_4 : decode cX7_darkPeriods 4 = .ok (.iload_n 3, 1) := by decide +kernel
theorem dX7_darkPeriods_5 : decode cX7_darkPeriods 5 = .ok (.bipush 20, 2) := by decide +kernel
theorem dX7_darkPeriods_7 : decode cX7_darkPeriods 7 = .ok (.if_icmp .gt 32, 3) := by decide +kernel
theorem dX7_darkPeriods_10 : decode cX7_darkPeriods 10 = .ok (.iload_n 1, 1) := by decide +kernel
theorem dX7_darkPeriods_11 : decode cX7_darkPeriods 11 = .ok (.iload_n 3, 1) := by decide +kernel
theorem dX7_darkPeriods_12 : decode cX7_darkPeriods 12 = .ok (.aload_n 0, 1) := by decide +kernel
theorem dX7_darkPeriods_13 : decode cX7_darkPeriods 13 = .ok (.getfield 12, 3) := by decide +kernel
theorem dX7_darkPeriods_16 : decode cX7_darkPeriods 16 = .ok (.bipush 6, 2) := by decide +kernel
theorem dX7_darkPeriods_18 : decode cX7_darkPeriods 18 = .ok (.invokevirtual 78, 3) := by decide +kernel
theorem dX7_darkPeriods_21 : decode cX7_darkPeriods 21 = .ok (.invokestatic 251, 3) := by decide +kernel
theorem dX7_darkPeriods_24 : decode cX7_darkPeriods 24 = .ok (.ifCond .eq 9, 3) := by decide +kernel
theorem dX7_darkPeriods_27 : decode cX7_darkPeriods 27 = .ok (.iload_n 2, 1) := by decide +kernel
theorem dX7_darkPeriods_28 : decode cX7_darkPeriods 28 = .ok (.iconst 1, 1) := by decide +kernel
theorem dX7_darkPeriods_29 : decode cX7_darkPeriods 29 = .ok (.iload_n 3, 1) := by decide +kernel
theorem dX7_darkPeriods_30 : decode cX7_darkPeriods 30 = .ok (.ishl, 1) := by decide +kernel
theorem dX7_darkPeriods_31 : decode cX7_darkPeriods 31 = .ok (.ior, 1) := by decide +kernel
theorem dX7_darkPeriods_32 : decode cX7_darkPeriods 32 = .ok (.istore_n 2, 1) := by decide +kernel
theorem dX7_darkPeriods_33 : decode cX7_darkPeriods 33 = .ok (.iinc 3 1, 3) := by decide +kernel
theorem dX7_darkPeriods_36 : decode cX7_darkPeriods 36 = .ok (.goto (-32), 3) := by decide +kernel
theorem dX7_darkPeriods_39 : decode cX7_darkPeriods 39 = .ok (.iload_n 2, 1) := by decide +kernel
theorem dX7_darkPeriods_40 : decode cX7_darkPeriods 40 = .ok (.ireturn, 1) := by decide +kernel
theorem dX7_isWithin_0 : decode cX7_isWithin 0 = .ok (.iload_n 0, 1) := by decide +kernel
theorem dX7_isWithin_1 : decode cX7_isWithin 1 = .ok (.iload_n 1, 1) := by decide +kernel
theorem dX7_isWithin_2 : decode cX7_isWithin 2 = .ok (.if_icmp .lt 12, 3) := by decide +kernel
theorem dX7_isWithin_5 : decode cX7_isWithin 5 = .ok (.iload_n 0, 1) := by decide +kernel
theorem dX7_isWithin_6 : decode cX7_isWithin 6 = .ok (.iload_n 2, 1) := by decide +kernel
theorem dX7_isWithin_7 : decode cX7_isWithin 7 = .ok (.if_icmp .gt 7, 3) := by decide +kernel
theorem dX7_isWithin_10 : decode cX7_isWithin 10 = .ok (.iconst 1, 1) := by decide +kernel
theorem dX7_isWithin_11 : decode cX7_isWithin 11 = .ok (.goto 4, 3) := by decide +kernel
theorem dX7_isWithin_14 : decode cX7_isWithin 14 = .ok (.iconst 0, 1) := by decide +kernel
theorem dX7_isWithin_15 : decode cX7_isWithin 15 = .ok (.ireturn, 1) := by decide +kernel
theorem dX7_numberIn_0 : decode cX7_numberIn 0 = .ok (.iload_n 1, 1) := by decide +kernel
theorem dX7_numberIn_1 : decode cX7_numberIn 1 = .ok (.ifCond .lt 15, 3) := by decide +kernel
theorem dX7_numberIn_4 : decode cX7_numberIn 4 = .ok (.iload_n 1, 1) := by decide +kernel
theorem dX7_numberIn_5 : decode cX7_numberIn 5 = .ok (.aload_n 0, 1) := by decide +kernel
theorem dX7_numberIn_6 : decode cX7_numberIn 6 = .ok (.arraylength, 1) := by decide +kernel
theorem dX7_numberIn_7 : decode cX7_numberIn 7 = .ok (.if_icmp .ge 9, 3) := by decide +kernel
theorem dX7_numberIn_10 : decode cX7_numberIn 10 = .ok (.aload_n 0, 1) := by decide +kernel
theorem dX7_numberIn_11 : decode cX7_numberIn 11 = .ok (.iload_n 1, 1) := by decide +kernel
theorem dX7_numberIn_12 : decode cX7_numberIn 12 = .ok (.iaload, 1) := by decide +kernel
theorem dX7_numberIn_13 : decode cX7_numberIn 13 = .ok (.goto 4, 3) := by decide +kernel
theorem dX7_numberIn_16 : decode cX7_numberIn 16 = .ok (.iconst 0, 1) := by decide +kernel
theorem dX7_numberIn_17 : decode cX7_numberIn 17 = .ok (.ireturn, 1) := by decide +kernel
theorem dX7_holds_0 : decode cX7_holds 0 = .ok (.iload_n 0, 1) := by decide +kernel
theorem dX7_holds_1 : decode cX7_holds 1 = .ok (.iload_n 1, 1) := by decide +kernel
theorem dX7_holds_2 : decode cX7_holds 2 = .ok (.ishr, 1) := by decide +kernel
theorem dX7_holds_3 : decode cX7_holds 3 = .ok (.iconst 1, 1) := by decide +kernel
theorem dX7_holds_4 : decode cX7_holds 4 = .ok (.iand, 1) := by decide +kernel
theorem dX7_holds_5 : decode cX7_holds 5 = .ok (.iconst 1, 1) := by decide +kernel
theorem dX7_holds_6 : decode cX7_holds 6 = .ok (.if_icmp .ne 7, 3) := by decide +kernel
theorem dX7_holds_9 : decode cX7_holds 9 = .ok (.iconst 1, 1) := by decide +kernel
theorem dX7_holds_10 : decode cX7_holds 10 = .ok (.goto 4, 3) := by decide +kernel
theorem dX7_holds_13 : decode cX7_holds 13 = .ok (.iconst 0, 1) := by decide +kernel
theorem dX7_holds_14 : decode cX7_holds 14 = .ok (.ireturn, 1) := by decide +kernel
theorem dX7_isDark_0 : decode cX7_isDark 0 = .ok (.iload_n 1, 1) := by decide +kernel
theorem dX7_isDark_1 : decode cX7_isDark 1 = .ok (.ifCond .eq 14, 3) := by decide +kernel
theorem dX7_isDark_4 : decode cX7_isDark 4 = .ok (.iload_n 0, 1) := by decide +kernel
theorem dX7_isDark_5 : decode cX7_isDark 5 = .ok (.iload_n 1, 1) := by decide +kernel
theorem dX7_isDark_6 : decode cX7_isDark 6 = .ok (.irem, 1) := by decide +kernel
theorem dX7_isDark_7 : decode cX7_isDark 7 = .ok (.iload_n 2, 1) := by decide +kernel
theorem dX7_isDark_8 : decode cX7_isDark 8 = .ok (.if_icmp .ge 7, 3) := by decide +kernel
theorem dX7_isDark_11 : decode cX7_isDark 11 = .ok (.iconst 1, 1) := by decide +kernel
theorem dX7_isDark_12 : decode cX7_isDark 12 = .ok (.goto 4, 3) := by decide +kernel
theorem dX7_isDark_15 : decode cX7_isDark 15 = .ok (.iconst 0, 1) := by decide +kernel
theorem dX7_isDark_16 : decode cX7_isDark 16 = .ok (.ireturn, 1) := by decide +kernel
theorem dX7_dimmed_0 : decode cX7_dimmed 0 = .ok (.iload_n 0, 1) := by decide +kernel
theorem dX7_dimmed_1 : decode cX7_dimmed 1 = .ok (.iload_n 1, 1) := by decide +kernel
theorem dX7_dimmed_2 : decode cX7_dimmed 2 = .ok (.imul, 1) := by decide +kernel
theorem dX7_dimmed_3 : decode cX7_dimmed 3 = .ok (.bipush 100, 2) := by decide +kernel
theorem dX7_dimmed_5 : decode cX7_dimmed 5 = .ok (.idiv, 1) := by decide +kernel
theorem dX7_dimmed_6 : decode cX7_dimmed 6 = .ok (.ireturn, 1) := by decide +kernel
theorem dX7_wrongOfThing_0 : decode cX7_wrongOfThing 0 = .ok (.iload_n 0, 1) := by decide +kernel
theorem dX7_wrongOfThing_1 : decode cX7_wrongOfThing 1 = .ok (.iconst 0, 1) := by decide +kernel
theorem dX7_wrongOfThing_2 : decode cX7_wrongOfThing 2 = .ok (.bipush 9, 2) := by decide +kernel
theorem dX7_wrongOfThing_4 : decode cX7_wrongOfThing 4 = .ok (.invokestatic 56, 3) := by decide +kernel
theorem dX7_wrongOfThing_7 : decode cX7_wrongOfThing 7 = .ok (.ifCond .ne 5, 3) := by decide +kernel
theorem dX7_wrongOfThing_10 : decode cX7_wrongOfThing 10 = .ok (.iconst 0, 1) := by decide +kernel
theorem dX7_wrongOfThing_11 : decode cX7_wrongOfThing 11 = .ok (.ireturn, 1) := by decide +kernel
theorem dX7_wrongOfThing_12 : decode cX7_wrongOfThing 12 = .ok (.iload_n 1, 1) := by decide +kernel
theorem dX7_wrongOfThing_13 : decode cX7_wrongOfThing 13 = .ok (.iload_n 0, 1) := by decide +kernel
theorem dX7_wrongOfThing_14 : decode cX7_wrongOfThing 14 = .ok (.bipush 9, 2) := by decide +kernel
theorem dX7_wrongOfThing_16 : decode cX7_wrongOfThing 16 = .ok (.invokestatic 56, 3) := by decide +kernel
theorem dX7_wrongOfThing_19 : decode cX7_wrongOfThing 19 = .ok (.ifCond .ne 5, 3) := by decide +kernel
theorem dX7_wrongOfThing_22 : decode cX7_wrongOfThing 22 = .ok (.iconst 1, 1) := by decide +kernel
theorem dX7_wrongOfThing_23 : decode cX7_wrongOfThing 23 = .ok (.ireturn, 1) := by decide +kernel
theorem dX7_wrongOfThing_24 : decode cX7_wrongOfThing 24 = .ok (.iload_n 2, 1) := by decide +kernel
theorem dX7_wrongOfThing_25 : decode cX7_wrongOfThing 25 = .ok (.sipush (-20000), 3) := by decide +kernel
theorem dX7_wrongOfThing_28 : decode cX7_wrongOfThing 28 = .ok (.sipush 20000, 3) := by decide +kernel
theorem dX7_wrongOfThing_31 : decode cX7_wrongOfThing 31 = .ok (.invokestatic 56, 3) := by decide +kernel
theorem dX7_wrongOfThing_34 : decode cX7_wrongOfThing 34 = .ok (.ifCond .ne 5, 3) := by decide +kernel
theorem dX7_wrongOfThing_37 : decode cX7_wrongOfThing 37 = .ok (.iconst 2, 1) := by decide +kernel
theorem dX7_wrongOfThing_38 : decode cX7_wrongOfThing 38 = .ok (.ireturn, 1) := by decide +kernel
theorem dX7_wrongOfThing_39 : decode cX7_wrongOfThing 39 = .ok (.iload_n 3, 1) := by decide +kernel
theorem dX7_wrongOfThing_40 : decode cX7_wrongOfThing 40 = .ok (.sipush (-200), 3) := by decide +kernel
theorem dX7_wrongOfThing_43 : decode cX7_wrongOfThing 43 = .ok (.sipush 200, 3) := by decide +kernel
theorem dX7_wrongOfThing_46 : decode cX7_wrongOfThing 46 = .ok (.invokestatic 56, 3) := by decide +kernel
theorem dX7_wrongOfThing_49 : decode cX7_wrongOfThing 49 = .ok (.ifCond .ne 5, 3) := by decide +kernel
theorem dX7_wrongOfThing_52 : decode cX7_wrongOfThing 52 = .ok (.iconst 3, 1) := by decide +kernel
theorem dX7_wrongOfThing_53 : decode cX7_wrongOfThing 53 = .ok (.ireturn, 1) := by decide +kernel
theorem dX7_wrongOfThing_54 : decode cX7_wrongOfThing 54 = .ok (.iload 4, 2) := by decide +kernel
theorem dX7_wrongOfThing_56 : decode cX7_wrongOfThing 56 = .ok (.bipush 50, 2) := by decide +kernel
theorem dX7_wrongOfThing_58 : decode cX7_wrongOfThing 58 = .ok (.sipush 1600, 3) := by decide +kernel
theorem dX7_wrongOfThing_61 : decode cX7_wrongOfThing 61 = .ok (.invokestatic 56, 3) := by decide +kernel
theorem dX7_wrongOfThing_64 : decode cX7_wrongOfThing 64 = .ok (.ifCond .ne 5, 3) := by decide +kernel
theorem dX7_wrongOfThing_67 : decode cX7_wrongOfThing 67 = .ok (.iconst 4, 1) := by decide +kernel
theorem dX7_wrongOfThing_68 : decode cX7_wrongOfThing 68 = .ok (.ireturn, 1) := by decide +kernel
theorem dX7_wrongOfThing_69 : decode cX7_wrongOfThing 69 = .ok (.iload 5, 2) := by decide +kernel
theorem dX7_wrongOfThing_71 : decode cX7_wrongOfThing 71 = .ok (.iconst 0, 1) := by decide +kernel
theorem dX7_wrongOfThing_72 : decode cX7_wrongOfThing 72 = .ok (.sipush 255, 3) := by decide +kernel
theorem dX7_wrongOfThing_75 : decode cX7_wrongOfThing 75 = .ok (.invokestatic 56, 3) := by decide +kernel
theorem dX7_wrongOfThing_78 : decode cX7_wrongOfThing 78 = .ok (.ifCond .eq 7, 3) := by decide +kernel
theorem dX7_wrongOfThing_81 : decode cX7_wrongOfThing 81 = .ok (.iconst (-1), 1) := by decide +kernel
theorem dX7_wrongOfThing_82 : decode cX7_wrongOfThing 82 = .ok (.goto 4, 3) := by decide +kernel
theorem dX7_wrongOfThing_85 : decode cX7_wrongOfThing 85 = .ok (.iconst 5, 1) := by decide +kernel
theorem dX7_wrongOfThing_86 : decode cX7_wrongOfThing 86 = .ok (.ireturn, 1) := by decide +kernel
theorem dX7_columnsCovered_0 : decode cX7_columnsCovered 0 = .ok (.iconst 0, 1) := by decide +kernel
theorem dX7_columnsCovered_1 : decode cX7_columnsCovered 1 = .ok (.bipush 16, 2) := by decide +kernel
theorem dX7_columnsCovered_3 : decode cX7_columnsCovered 3 = .ok (.iload_n 0, 1) := by decide +kernel
theorem dX7_columnsCovered_4 : decode cX7_columnsCovered 4 = .ok (.bipush 49, 2) := by decide +kernel
theorem dX7_columnsCovered_6 : decode cX7_columnsCovered 6 = .ok (.iadd, 1) := by decide +kernel
theorem dX7_columnsCovered_7 : decode cX7_columnsCovered 7 = .ok (.bipush 100, 2) := by decide +kernel
theorem dX7_columnsCovered_9 : decode cX7_columnsCovered 9 = .ok (.invokestatic 299, 3) := by decide +kernel
theorem dX7_columnsCovered_12 : decode cX7_columnsCovered 12 = .ok (.invokestatic 304, 3) := by decide +kernel
theorem dX7_columnsCovered_15 : decode cX7_columnsCovered 15 = .ok (.invokestatic 307, 3) := by decide +kernel
theorem dX7_columnsCovered_18 : decode cX7_columnsCovered 18 = .ok (.istore_n 2, 1) := by decide +kernel
theorem dX7_columnsCovered_19 : decode cX7_columnsCovered 19 = .ok (.iconst 0, 1) := by decide +kernel
theorem dX7_columnsCovered_20 : decode cX7_columnsCovered 20 = .ok (.bipush 16, 2) := by decide +kernel
theorem dX7_columnsCovered_22 : decode cX7_columnsCovered 22 = .ok (.iload_n 0, 1) := by decide +kernel
theorem dX7_columnsCovered_23 : decode cX7_columnsCovered 23 = .ok (.iload_n 1, 1) := by decide +kernel
theorem dX7_columnsCovered_24 : decode cX7_columnsCovered 24 = .ok (.iadd, 1) := by decide +kernel
theorem dX7_columnsCovered_25 : decode cX7_columnsCovered 25 = .ok (.bipush 49, 2) := by decide +kernel
theorem dX7_columnsCovered_27 : decode cX7_columnsCovered 27 = .ok (.iadd, 1) := by decide +kernel
theorem dX7_columnsCovered_28 : decode cX7_columnsCovered 28 = .ok (.bipush 100, 2) := by decide +kernel
theorem dX7_columnsCovered_30 : decode cX7_columnsCovered 30 = .ok (.invokestatic 299, 3) := by decide +kernel
theorem dX7_columnsCovered_33 : decode cX7_columnsCovered 33 = .ok (.invokestatic 304, 3) := by decide +kernel
theorem dX7_columnsCovered_36 : decode cX7_columnsCovered 36 = .ok (.invokestatic 307, 3) := by decide +kernel
theorem dX7_columnsCovered_39 : decode cX7_columnsCovered 39 = .ok (.istore_n 3, 1) := by decide +kernel
theorem dX7_columnsCovered_40 : decode cX7_columnsCovered 40 = .ok (.iconst 1, 1) := by decide +kernel
theorem dX7_columnsCovered_41 : decode cX7_columnsCovered 41 = .ok (.iload_n 3, 1) := by decide +kernel
theorem dX7_columnsCovered_42 : decode cX7_columnsCovered 42 = .ok (.ishl, 1) := by decide +kernel
theorem dX7_columnsCovered_43 : decode cX7_columnsCovered 43 = .ok (.iconst 1, 1) := by decide +kernel
theorem dX7_columnsCovered_44 : decode cX7_columnsCovered 44 = .ok (.iload_n 2, 1) := by decide +kernel
theorem dX7_columnsCovered_45 : decode cX7_columnsCovered 45 = .ok (.ishl, 1) := by decide +kernel
theorem dX7_columnsCovered_46 : decode cX7_columnsCovered 46 = .ok (.isub, 1) := by decide +kernel
theorem dX7_columnsCovered_47 : decode cX7_columnsCovered 47 = .ok (.ireturn, 1) := by decide +kernel
theorem dX7_bestShift_0 : decode cX7_bestShift 0 = .ok (.ldc 163, 2) := by decide +kernel
theorem dX7_bestShift_2 : decode cX7_bestShift 2 = .ok (.istore_n 2, 1) := by decide +kernel
theorem dX7_bestShift_3 : decode cX7_bestShift 3 = .ok (.iconst 0, 1) := by decide +kernel
theorem dX7_bestShift_4 : decode cX7_bestShift 4 = .ok (.istore_n 3, 1) := by decide +kernel
theorem dX7_bestShift_5 : decode cX7_bestShift 5 = .ok (.iload_n 0, 1) := by decide +kernel
theorem dX7_bestShift_6 : decode cX7_bestShift 6 = .ok (.ifCond .eq 7, 3) := by decide +kernel
theorem dX7_bestShift_9 : decode cX7_bestShift 9 = .ok (.iload_n 1, 1) := by decide +kernel
theorem dX7_bestShift_10 : decode cX7_bestShift 10 = .ok (.ifCond .ne 6, 3) := by decide +kernel
theorem dX7_bestShift_13 : decode cX7_bestShift 13 = .ok (.ldc 163, 2) := by decide +kernel
theorem dX7_bestShift_15 : decode cX7_bestShift 15 = .ok (.ireturn, 1) := by decide +kernel
theorem dX7_bestShift_16 : decode cX7_bestShift 16 = .ok (.iconst 0, 1) := by decide +kernel
theorem dX7_bestShift_17 : decode cX7_bestShift 17 = .ok (.istore 4, 2) := by decide +kernel
theorem dX7_bestShift_19 : decode cX7_bestShift 19 = .ok (.iload 4, 2) := by decide +kernel
theorem dX7_bestShift_21 : decode cX7_bestShift 21 = .ok (.bipush 8, 2) := by decide +kernel
theorem dX7_bestShift_23 : decode cX7_bestShift 23 = .ok (.if_icmp .gt 56, 3) := by decide +kernel
theorem dX7_bestShift_26 : decode cX7_bestShift 26 = .ok (.iload_n 0, 1) := by decide +kernel
theorem dX7_bestShift_27 : decode cX7_bestShift 27 = .ok (.iload 4, 2) := by decide +kernel
theorem dX7_bestShift_29 : decode cX7_bestShift 29 = .ok (.ishr, 1) := by decide +kernel
theorem dX7_bestShift_30 : decode cX7_bestShift 30 = .ok (.iload_n 1, 1) := by decide +kernel
theorem dX7_bestShift_31 : decode cX7_bestShift 31 = .ok (.iand, 1) := by decide +kernel
theorem dX7_bestShift_32 : decode cX7_bestShift 32 = .ok (.invokestatic 126, 3) := by decide +kernel
theorem dX7_bestShift_35 : decode cX7_bestShift 35 = .ok (.istore 5, 2) := by decide +kernel
theorem dX7_bestShift_37 : decode cX7_bestShift 37 = .ok (.iload_n 0, 1) := by decide +kernel
theorem dX7_bestShift_38 : decode cX7_bestShift 38 = .ok (.iload 4, 2) := by decide +kernel
theorem dX7_bestShift_40 : decode cX7_bestShift 40 = .ok (.ishl, 1) := by decide +kernel
theorem dX7_bestShift_41 : decode cX7_bestShift 41 = .ok (.iload_n 1, 1) := by decide +kernel
theorem dX7_bestShift_42 : decode cX7_bestShift 42 = .ok (.iand, 1) := by decide +kernel
theorem dX7_bestShift_43 : decode cX7_bestShift 43 = .ok (.invokestatic 126, 3) := by decide +kernel
theorem dX7_bestShift_46 : decode cX7_bestShift 46 = .ok (.istore 6, 2) := by decide +kernel
theorem dX7_bestShift_48 : decode cX7_bestShift 48 = .ok (.iload 5, 2) := by decide +kernel
theorem dX7_bestShift_50 : decode cX7_bestShift 50 = .ok (.iload_n 3, 1) := by decide +kernel
theorem dX7_bestShift_51 : decode cX7_bestShift 51 = .ok (.if_icmp .le 10, 3) := by decide +kernel
theorem dX7_bestShift_54 : decode cX7_bestShift 54 = .ok (.iload 4, 2) := by decide +kernel
theorem dX7_bestShift_56 : decode cX7_bestShift 56 = .ok (.ineg, 1) := by decide +kernel
theorem dX7_bestShift_57 : decode cX7_bestShift 57 = .ok (.istore_n 2, 1) := by decide +kernel
theorem dX7_bestShift_58 : decode cX7_bestShift 58 = .ok (.iload 5, 2) := by decide +kernel
theorem dX7_bestShift_60 : decode cX7_bestShift 60 = .ok (.istore_n 3, 1) := by decide +kernel
theorem dX7_bestShift_61 : decode cX7_bestShift 61 = .ok (.iload 6, 2) := by decide +kernel
theorem dX7_bestShift_63 : decode cX7_bestShift 63 = .ok (.iload_n 3, 1) := by decide +kernel
theorem dX7_bestShift_64 : decode cX7_bestShift 64 = .ok (.if_icmp .le 9, 3) := by decide +kernel
theorem dX7_bestShift_67 : decode cX7_bestShift 67 = .ok (.iload 4, 2) := by decide +kernel
theorem dX7_bestShift_69 : decode cX7_bestShift 69 = .ok (.istore_n 2, 1) := by decide +kernel
theorem dX7_bestShift_70 : decode cX7_bestShift 70 = .ok (.iload 6, 2) := by decide +kernel
theorem dX7_bestShift_72 : decode cX7_bestShift 72 = .ok (.istore_n 3, 1) := by decide +kernel
theorem dX7_bestShift_73 : decode cX7_bestShift 73 = .ok (.iinc 4 1, 3) := by decide +kernel
theorem dX7_bestShift_76 : decode cX7_bestShift 76 = .ok (.goto (-57), 3) := by decide +kernel
theorem dX7_bestShift_79 : decode cX7_bestShift 79 = .ok (.iload_n 2, 1) := by decide +kernel
theorem dX7_bestShift_80 : decode cX7_bestShift 80 = .ok (.ireturn, 1) := by decide +kernel
theorem dJ6_bitCount_0f7a4_0 : decode cJ6_bitCount_0f7a4 0 = .ok (.iload_n 0, 1) := by decide +kernel
theorem dJ6_bitCount_0f7a4_1 : decode cJ6_bitCount_0f7a4 1 = .ok (.iload_n 0, 1) := by decide +kernel
theorem dJ6_bitCount_0f7a4_2 : decode cJ6_bitCount_0f7a4 2 = .ok (.iconst 1, 1) := by decide +kernel
theorem dJ6_bitCount_0f7a4_3 : decode cJ6_bitCount_0f7a4 3 = .ok (.iushr, 1) := by decide +kernel
theorem dJ6_bitCount_0f7a4_4 : decode cJ6_bitCount_0f7a4 4 = .ok (.ldc_w 265, 3) := by decide +kernel
theorem dJ6_bitCount_0f7a4_7 : decode cJ6_bitCount_0f7a4 7 = .ok (.iand, 1) := by decide +kernel
theorem dJ6_bitCount_0f7a4_8 : decode cJ6_bitCount_0f7a4 8 = .ok (.isub, 1) := by decide +kernel
theorem dJ6_bitCount_0f7a4_9 : decode cJ6_bitCount_0f7a4 9 = .ok (.istore_n 0, 1) := by decide +kernel
theorem dJ6_bitCount_0f7a4_10 : decode cJ6_bitCount_0f7a4 10 = .ok (.iload_n 0, 1) := by decide +kernel
theorem dJ6_bitCount_0f7a4_11 : decode cJ6_bitCount_0f7a4 11 = .ok (.ldc_w 266, 3) := by decide +kernel
theorem dJ6_bitCount_0f7a4_14 : decode cJ6_bitCount_0f7a4 14 = .ok (.iand, 1) := by decide +kernel
theorem dJ6_bitCount_0f7a4_15 : decode cJ6_bitCount_0f7a4 15 = .ok (.iload_n 0, 1) := by decide +kernel
theorem dJ6_bitCount_0f7a4_16 : decode cJ6_bitCount_0f7a4 16 = .ok (.iconst 2, 1) := by decide +kernel
theorem dJ6_bitCount_0f7a4_17 : decode cJ6_bitCount_0f7a4 17 = .ok (.iushr, 1) := by decide +kernel
theorem dJ6_bitCount_0f7a4_18 : decode cJ6_bitCount_0f7a4 18 = .ok (.ldc_w 266, 3) := by decide +kernel
theorem dJ6_bitCount_0f7a4_21 : decode cJ6_bitCount_0f7a4 21 = .ok (.iand, 1) := by decide +kernel
theorem dJ6_bitCount_0f7a4_22 : decode cJ6_bitCount_0f7a4 22 = .ok (.iadd, 1) := by decide +kernel
theorem dJ6_bitCount_0f7a4_23 : decode cJ6_bitCount_0f7a4 23 = .ok (.istore_n 0, 1) := by decide +kernel
theorem dJ6_bitCount_0f7a4_24 : decode cJ6_bitCount_0f7a4 24 = .ok (.iload_n 0, 1) := by decide +kernel
theorem dJ6_bitCount_0f7a4_25 : decode cJ6_bitCount_0f7a4 25 = .ok (.iload_n 0, 1) := by decide +kernel
theorem dJ6_bitCount_0f7a4_26 : decode cJ6_bitCount_0f7a4 26 = .ok (.iconst 4, 1) := by decide +kernel
theorem dJ6_bitCount_0f7a4_27 : decode cJ6_bitCount_0f7a4 27 = .ok (.iushr, 1) := by decide +kernel
theorem dJ6_bitCount_0f7a4_28 : decode cJ6_bitCount_0f7a4 28 = .ok (.iadd, 1) := by decide +kernel
theorem dJ6_bitCount_0f7a4_29 : decode cJ6_bitCount_0f7a4 29 = .ok (.ldc_w 267, 3) := by decide +kernel
theorem dJ6_bitCount_0f7a4_32 : decode cJ6_bitCount_0f7a4 32 = .ok (.iand, 1) := by decide +kernel
theorem dJ6_bitCount_0f7a4_33 : decode cJ6_bitCount_0f7a4 33 = .ok (.istore_n 0, 1) := by decide +kernel
theorem dJ6_bitCount_0f7a4_34 : decode cJ6_bitCount_0f7a4 34 = .ok (.iload_n 0, 1) := by decide +kernel
theorem dJ6_bitCount_0f7a4_35 : decode cJ6_bitCount_0f7a4 35 = .ok (.iload_n 0, 1) := by decide +kernel
theorem dJ6_bitCount_0f7a4_36 : decode cJ6_bitCount_0f7a4 36 = .ok (.bipush 8, 2) := by decide +kernel
theorem dJ6_bitCount_0f7a4_38 : decode cJ6_bitCount_0f7a4 38 = .ok (.iushr, 1) := by decide +kernel
theorem dJ6_bitCount_0f7a4_39 : decode cJ6_bitCount_0f7a4 39 = .ok (.iadd, 1) := by decide +kernel
theorem dJ6_bitCount_0f7a4_40 : decode cJ6_bitCount_0f7a4 40 = .ok (.istore_n 0, 1) := by decide +kernel
theorem dJ6_bitCount_0f7a4_41 : decode cJ6_bitCount_0f7a4 41 = .ok (.iload_n 0, 1) := by decide +kernel
theorem dJ6_bitCount_0f7a4_42 : decode cJ6_bitCount_0f7a4 42 = .ok (.iload_n 0, 1) := by decide +kernel
theorem dJ6_bitCount_0f7a4_43 : decode cJ6_bitCount_0f7a4 43 = .ok (.bipush 16, 2) := by decide +kernel
theorem dJ6_bitCount_0f7a4_45 : decode cJ6_bitCount_0f7a4 45 = .ok (.iushr, 1) := by decide +kernel
theorem dJ6_bitCount_0f7a4_46 : decode cJ6_bitCount_0f7a4 46 = .ok (.iadd, 1) := by decide +kernel
theorem dJ6_bitCount_0f7a4_47 : decode cJ6_bitCount_0f7a4 47 = .ok (.istore_n 0, 1) := by decide +kernel
theorem dJ6_bitCount_0f7a4_48 : decode cJ6_bitCount_0f7a4 48 = .ok (.iload_n 0, 1) := by decide +kernel
theorem dJ6_bitCount_0f7a4_49 : decode cJ6_bitCount_0f7a4 49 = .ok (.bipush 63, 2) := by decide +kernel
theorem dJ6_bitCount_0f7a4_51 : decode cJ6_bitCount_0f7a4 51 = .ok (.iand, 1) := by decide +kernel
theorem dJ6_bitCount_0f7a4_52 : decode cJ6_bitCount_0f7a4 52 = .ok (.ireturn, 1) := by decide +kernel
theorem dJ9_floorDiv_7cf53_0 : decode cJ9_floorDiv_7cf53 0 = .ok (.iload_n 0, 1) := by decide +kernel
theorem dJ9_floorDiv_7cf53_1 : decode cJ9_floorDiv_7cf53 1 = .ok (.iload_n 1, 1) := by decide +kernel
theorem dJ9_floorDiv_7cf53_2 : decode cJ9_floorDiv_7cf53 2 = .ok (.idiv, 1) := by decide +kernel
theorem dJ9_floorDiv_7cf53_3 : decode cJ9_floorDiv_7cf53 3 = .ok (.istore_n 2, 1) := by decide +kernel
theorem dJ9_floorDiv_7cf53_4 : decode cJ9_floorDiv_7cf53 4 = .ok (.iload_n 0, 1) := by decide +kernel
theorem dJ9_floorDiv_7cf53_5 : decode cJ9_floorDiv_7cf53 5 = .ok (.iload_n 1, 1) := by decide +kernel
theorem dJ9_floorDiv_7cf53_6 : decode cJ9_floorDiv_7cf53 6 = .ok (.ixor, 1) := by decide +kernel
theorem dJ9_floorDiv_7cf53_7 : decode cJ9_floorDiv_7cf53 7 = .ok (.ifCond .ge 14, 3) := by decide +kernel
theorem dJ9_floorDiv_7cf53_10 : decode cJ9_floorDiv_7cf53 10 = .ok (.iload_n 2, 1) := by decide +kernel
theorem dJ9_floorDiv_7cf53_11 : decode cJ9_floorDiv_7cf53 11 = .ok (.iload_n 1, 1) := by decide +kernel
theorem dJ9_floorDiv_7cf53_12 : decode cJ9_floorDiv_7cf53 12 = .ok (.imul, 1) := by decide +kernel
theorem dJ9_floorDiv_7cf53_13 : decode cJ9_floorDiv_7cf53 13 = .ok (.iload_n 0, 1) := by decide +kernel
theorem dJ9_floorDiv_7cf53_14 : decode cJ9_floorDiv_7cf53 14 = .ok (.if_icmp .eq 7, 3) := by decide +kernel
theorem dJ9_floorDiv_7cf53_17 : decode cJ9_floorDiv_7cf53 17 = .ok (.iload_n 2, 1) := by decide +kernel
theorem dJ9_floorDiv_7cf53_18 : decode cJ9_floorDiv_7cf53 18 = .ok (.iconst 1, 1) := by decide +kernel
theorem dJ9_floorDiv_7cf53_19 : decode cJ9_floorDiv_7cf53 19 = .ok (.isub, 1) := by decide +kernel
theorem dJ9_floorDiv_7cf53_20 : decode cJ9_floorDiv_7cf53 20 = .ok (.ireturn, 1) := by decide +kernel
theorem dJ9_floorDiv_7cf53_21 : decode cJ9_floorDiv_7cf53 21 = .ok (.iload_n 2, 1) := by decide +kernel
theorem dJ9_floorDiv_7cf53_22 : decode cJ9_floorDiv_7cf53 22 = .ok (.ireturn, 1) := by decide +kernel
theorem dJ9_abs_0f7a4_0 : decode cJ9_abs_0f7a4 0 = .ok (.iload_n 0, 1) := by decide +kernel
theorem dJ9_abs_0f7a4_1 : decode cJ9_abs_0f7a4 1 = .ok (.ifCond .ge 8, 3) := by decide +kernel
theorem dJ9_abs_0f7a4_4 : decode cJ9_abs_0f7a4 4 = .ok (.iload_n 0, 1) := by decide +kernel
theorem dJ9_abs_0f7a4_5 : decode cJ9_abs_0f7a4 5 = .ok (.ineg, 1) := by decide +kernel
theorem dJ9_abs_0f7a4_6 : decode cJ9_abs_0f7a4 6 = .ok (.goto 4, 3) := by decide +kernel
theorem dJ9_abs_0f7a4_9 : decode cJ9_abs_0f7a4 9 = .ok (.iload_n 0, 1) := by decide +kernel
theorem dJ9_abs_0f7a4_10 : decode cJ9_abs_0f7a4 10 = .ok (.ireturn, 1) := by decide +kernel
theorem dJ9_max_7cf53_0 : decode cJ9_max_7cf53 0 = .ok (.iload_n 0, 1) := by decide +kernel
theorem dJ9_max_7cf53_1 : decode cJ9_max_7cf53 1 = .ok (.iload_n 1, 1) := by decide +kernel
theorem dJ9_max_7cf53_2 : decode cJ9_max_7cf53 2 = .ok (.if_icmp .lt 7, 3) := by decide +kernel
theorem dJ9_max_7cf53_5 : decode cJ9_max_7cf53 5 = .ok (.iload_n 0, 1) := by decide +kernel
theorem dJ9_max_7cf53_6 : decode cJ9_max_7cf53 6 = .ok (.goto 4, 3) := by decide +kernel
theorem dJ9_max_7cf53_9 : decode cJ9_max_7cf53 9 = .ok (.iload_n 1, 1) := by decide +kernel
theorem dJ9_max_7cf53_10 : decode cJ9_max_7cf53 10 = .ok (.ireturn, 1) := by decide +kernel
theorem dJ9_min_7cf53_0 : decode cJ9_min_7cf53 0 = .ok (.iload_n 0, 1) := by decide +kernel
theorem dJ9_min_7cf53_1 : decode cJ9_min_7cf53 1 = .ok (.iload_n 1, 1) := by decide +kernel
theorem dJ9_min_7cf53_2 : decode cJ9_min_7cf53 2 = .ok (.if_icmp .gt 7, 3) := by decide +kernel
theorem dJ9_min_7cf53_5 : decode cJ9_min_7cf53 5 = .ok (.iload_n 0, 1) := by decide +kernel
theorem dJ9_min_7cf53_6 : decode cJ9_min_7cf53 6 = .ok (.goto 4, 3) := by decide +kernel
theorem dJ9_min_7cf53_9 : decode cJ9_min_7cf53 9 = .ok (.iload_n 1, 1) := by decide +kernel
theorem dJ9_min_7cf53_10 : decode cJ9_min_7cf53 10 = .ok (.ireturn, 1) := by decide +kernel
end
section
theorem dX8_init_0 : decode cX8_init 0 = .ok (.aload_n 0, 1) := by decide +kernel
theorem dX8_init_1 : decode cX8_init 1 = .ok (.invokespecial 1, 3) := by decide +kernel
theorem dX8_init_4 : decode cX8_init 4 = .ok (.aload_n 0, 1) := by decide +kernel
theorem dX8_init_5 : decode cX8_init 5 = .ok (.sipush 867, 3) := by decide +kernel
theorem dX8_init_8 : decode cX8_init 8 = .ok (.newarray .int, 2) := by decide +kernel
theorem dX8_init_10 : decode cX8_init 10 = .ok (.putfield 7, 3) := by decide +kernel
theorem dX8_init_13 : decode cX8_init 13 = .ok (.aload_n 0, 1) := by decide +kernel
theorem dX8_init_14 : decode cX8_init 14 = .ok (.sipush 3468, 3) := by decide +kernel
theorem dX8_init_17 : decode cX8_init 17 = .ok (.newarray .int, 2) := by decide +kernel
theorem dX8_init_19 : decode cX8_init 19 = .ok (.putfield 13, 3) := by decide +kernel
theorem dX8_init_22 : decode cX8_init 22 = .ok (.aload_n 0, 1) := by decide +kernel
theorem dX8_init_23 : decode cX8_init 23 = .ok (.sipush 867, 3) := by decide +kernel
theorem dX8_init_26 : decode cX8_init 26 = .ok (.newarray .int, 2) := by decide +kernel
theorem dX8_init_28 : decode cX8_init 28 = .ok (.putfield 16, 3) := by decide +kernel
theorem dX8_init_31 : decode cX8_init 31 = .ok (.aload_n 0, 1) := by decide +kernel
theorem dX8_init_32 : decode cX8_init 32 = .ok (.bipush 80, 2) := by decide +kernel
theorem dX8_init_34 : decode cX8_init 34 = .ok (.newarray .int, 2) := by decide +kernel
theorem dX8_init_36 : decode cX8_init 36 = .ok (.putfield 19, 3) := by decide +kernel
theorem dX8_init_39 : decode cX8_init 39 = .ok (.aload_n 0, 1) := by decide +kernel
theorem dX8_init_40 : decode cX8_init 40 = .ok (.bipush 17, 2) := by decide +kernel
theorem dX8_init_42 : decode cX8_init 42 = .ok (.newarray .int, 2) := by decide +kernel
theorem dX8_init_44 : decode cX8_init 44 = .ok (.putfield 22, 3) := by decide +kernel
theorem dX8_init_47 : decode cX8_init 47 = .ok (.aload_n 0, 1) := by decide +kernel
theorem dX8_init_48 : decode cX8_init 48 = .ok (.bipush 6, 2) := by decide +kernel
theorem dX8_init_50 : decode cX8_init 50 = .ok (.newarray .int, 2) := by decide +kernel
theorem dX8_init_52 : decode cX8_init 52 = .ok (.putfield 25, 3) := by decide +kernel
theorem dX8_init_55 : decode cX8_init 55 = .ok (.aload_n 0, 1) := by decide +kernel
theorem dX8_init_56 : decode cX8_init 56 = .ok (.getfield 7, 3) := by decide +kernel
theorem dX8_init_59 : decode cX8_init 59 = .ok (.iconst 0, 1) := by decide +kernel
theorem dX8_init_60 : decode cX8_init 60 = .ok (.bipush 6, 2) := by decide +kernel
theorem dX8_init_62 : decode cX8_init 62 = .ok (.iastore, 1) := by decide +kernel
theorem dX8_init_63 : decode cX8_init 63 = .ok (.aload_n 0, 1) := by decide +kernel
theorem dX8_init_64 : decode cX8_init 64 = .ok (.getfield 7, 3) := by decide +kernel
theorem dX8_init_67 : decode cX8_init 67 = .ok (.iconst 1, 1) := by decide +kernel
theorem dX8_init_68 : decode cX8_init 68 = .ok (.bipush 12, 2) := by decide +kernel
theorem dX8_init_70 : decode cX8_init 70 = .ok (.iastore, 1) := by decide +kernel
theorem dX8_init_71 : decode cX8_init 71 = .ok (.aload_n 0, 1) := by decide +kernel
theorem dX8_init_72 : decode cX8_init 72 = .ok (.getfield 7, 3) := by decide +kernel
theorem dX8_init_75 : decode cX8_init 75 = .ok (.iconst 2, 1) := by decide +kernel
theorem dX8_init_76 : decode cX8_init 76 = .ok (.iconst 1, 1) := by decide +kernel
theorem dX8_init_77 : decode cX8_init 77 = .ok (.iastore, 1) := by decide +kernel
theorem dX8_init_78 : decode cX8_init 78 = .ok (.aload_n 0, 1) := by decide +kernel
theorem dX8_init_79 : decode cX8_init 79 = .ok (.getfield 7, 3) := by decide +kernel
theorem dX8_init_82 : decode cX8_init 82 = .ok (.iconst 3, 1) := by decide +kernel
theorem dX8_init_83 : decode cX8_init 83 = .ok (.bipush 40, 2) := by decide +kernel
theorem dX8_init_85 : decode cX8_init 85 = .ok (.iastore, 1) := by decide +kernel
theorem dX8_init_86 : decode cX8_init 86 = .ok (.aload_n 0, 1) := by decide +kernel
theorem dX8_init_87 : decode cX8_init 87 = .ok (.getfield 7, 3) := by decide +kernel
theorem dX8_init_90 : decode cX8_init 90 = .ok (.iconst 4, 1) := by decide +kernel
theorem dX8_init_91 : decode cX8_init 91 = .ok (.bipush 20, 2) := by decide +kernel
theorem dX8_init_93 : decode cX8_init 93 = .ok (.iastore, 1) := by decide +kernel
theorem dX8_init_94 : decode cX8_init 94 = .ok (.aload_n 0, 1) := by decide +kernel
theorem dX8_init_95 : decode cX8_init 95 = .ok (.getfield 7, 3) := by decide +kernel
theorem dX8_init_98 : decode cX8_init 98 = .ok (.bipush 7, 2) := by decide +kernel
theorem dX8_init_100 : decode cX8_init 100 = .ok (.bipush 50, 2) := by decide +kernel
theorem dX8_init_102 : decode cX8_init 102 = .ok (.iastore, 1) := by decide +kernel
theorem dX8_init_103 : decode cX8_init 103 = .ok (.return_, 1) := by decide +kernel
theorem dX8_in_0 : decode cX8_in 0 = .ok (.iload_n 0, 1) := by decide +kernel
theorem dX8_in_1 : decode cX8_in 1 = .ok (.iload_n 1, 1) := by decide +kernel
theorem dX8_in_2 : decode cX8_in 2 = .ok (.if_icmp .lt 12, 3) := by decide +kernel
theorem dX8_in_5 : decode cX8_in 5 = .ok (.iload_n 0, 1) := by decide +kernel
theorem dX8_in_6 : decode cX8_in 6 = .ok (.iload_n 2, 1) := by decide +kernel
theorem dX8_in_7 : decode cX8_in 7 = .ok (.if_icmp .gt 7, 3) := by decide +kernel
theorem dX8_in_10 : decode cX8_in 10 = .ok (.iconst 1, 1) := by decide +kernel
theorem dX8_in_11 : decode cX8_in 11 = .ok (.goto 4, 3) := by decide +kernel
theorem dX8_in_14 : decode cX8_in 14 = .ok (.iconst 0, 1) := by decide +kernel
theorem dX8_in_15 : decode cX8_in 15 = .ok (.ireturn, 1) := by decide +kernel
theorem dX8_has_0 : decode cX8_has 0 = .ok (.iload_n 0, 1) := by decide +kernel
theorem dX8_has_1 : decode cX8_has 1 = .ok (.iload_n 1, 1) := by decide +kernel
theorem dX8_has_2 : decode cX8_has 2 = .ok (.ishr, 1) := by decide +kernel
theorem dX8_has_3 : decode cX8_has 3 = .ok (.iconst 1, 1) := by decide +kernel
theorem dX8_has_4 : decode cX8_has 4 = .ok (.iand, 1) := by decide +kernel
theorem dX8_has_5 : decode cX8_has 5 = .ok (.iconst 1, 1) := by decide +kernel
theorem dX8_has_6 : decode cX8_has 6 = .ok (.if_icmp .ne 7, 3) := by decide +kernel
theorem dX8_has_9 : decode cX8_has 9 = .ok (.iconst 1, 1) := by decide +kernel
theorem dX8_has_10 : decode cX8_has 10 = .ok (.goto 4, 3) := by decide +kernel
theorem dX8_has_13 : decode cX8_has 13 = .ok (.iconst 0, 1) := by decide +kernel
theorem dX8_has_14 : decode cX8_has 14 = .ok (.ireturn, 1) := by decide +kernel
theorem dX8_bits_0 : decode cX8_bits 0 = .ok (.iconst 0, 1) := by decide +kernel
theorem dX8_bits_1 : decode cX8_bits 1 = .ok (.istore_n 1, 1) := by decide +kernel
theorem dX8_bits_2 : decode cX8_bits 2 = .ok (.iconst 0, 1) := by decide +kernel
theorem dX8_bits_3 : decode cX8_bits 3 = .ok (.istore_n 2, 1) := by decide +kernel
theorem dX8_bits_4 : decode cX8_bits 4 = .ok (.iload_n 2, 1) := by decide +kernel
theorem dX8_bits_5 : decode cX8_bits 5 = .ok (.bipush 17, 2) := by decide +kernel
theorem dX8_bits_7 : decode cX8_bits 7 = .ok (.if_icmp .ge 17, 3) := by decide +kernel
theorem dX8_bits_10 : decode cX8_bits 10 = .ok (.iload_n 1, 1) := by decide +kernel
theorem dX8_bits_11 : decode cX8_bits 11 = .ok (.iload_n 0, 1) := by decide +kernel
theorem dX8_bits_12 : decode cX8_bits 12 = .ok (.iload_n 2, 1) := by decide +kernel
theorem dX8_bits_13 : decode cX8_bits 13 = .ok (.ishr, 1) := by decide +kernel
theorem dX8_bits_14 : decode cX8_bits 14 = .ok (.iconst 1, 1) := by decide +kernel
theorem dX8_bits_15 : decode cX8_bits 15 = .ok (.iand, 1) := by decide +kernel
theorem dX8_bits_16 : decode cX8_bits 16 = .ok (.iadd, 1) := by decide +kernel
theorem dX8_bits_17 : decode cX8_bits 17 = .ok (.istore_n 1, 1) := by decide +kernel
theorem dX8_bits_18 : decode cX8_bits 18 = .ok (.iinc 2 1, 3) := by decide +kernel
theorem dX8_bits_21 : decode cX8_bits 21 = .ok (.goto (-17), 3) := by decide +kernel
theorem dX8_bits_24 : decode cX8_bits 24 = .ok (.iload_n 1, 1) := by decide +kernel
theorem dX8_bits_25 : decode cX8_bits 25 = .ok (.ireturn, 1) := by decide +kernel
theorem dX8_copies_0 : decode cX8_copies 0 = .ok (.iconst 0, 1) := by decide +kernel
theorem dX8_copies_1 : decode cX8_copies 1 = .ok (.istore 4, 2) := by decide +kernel
theorem dX8_copies_3 : decode cX8_copies 3 = .ok (.iload 4, 2) := by decide +kernel
theorem dX8_copies_5 : decode cX8_copies 5 = .ok (.sipush 867, 3) := by decide +kernel
theorem dX8_copies_8 : decode cX8_copies 8 = .ok (.if_icmp .ge 21, 3) := by decide +kernel
theorem dX8_copies_11 : decode cX8_copies 11 = .ok (.aload_n 2, 1) := by decide +kernel
theorem dX8_copies_12 : decode cX8_copies 12 = .ok (.iload_n 3, 1) := by decide +kernel
theorem dX8_copies_13 : decode cX8_copies 13 = .ok (.iload 4, 2) := by decide +kernel
theorem dX8_copies_15 : decode cX8_copies 15 = .ok (.iadd, 1) := by decide +kernel
theorem dX8_copies_16 : decode cX8_copies 16 = .ok (.aload_n 0, 1) := by decide +kernel
theorem dX8_copies_17 : decode cX8_copies 17 = .ok (.iload_n 1, 1) := by decide +kernel
theorem dX8_copies_18 : decode cX8_copies 18 = .ok (.iload 4, 2) := by decide +kernel
theorem dX8_copies_20 : decode cX8_copies 20 = .ok (.iadd, 1) := by decide +kernel
theorem dX8_copies_21 : decode cX8_copies 21 = .ok (.iaload, 1) := by decide +kernel
theorem dX8_copies_22 : decode cX8_copies 22 = .ok (.iastore, 1) := by decide +kernel
theorem dX8_copies_23 : decode cX8_copies 23 = .ok (.iinc 4 1, 3) := by decide +kernel
theorem dX8_copies_26 : decode cX8_copies 26 = .ok (.goto (-23), 3) := by decide +kernel
theorem dX8_copies_29 : decode cX8_copies 29 = .ok (.return_, 1) := by decide +kernel
theorem dX8_notes_0 : decode cX8_notes 0 = .ok (.aload_n 0, 1) := by decide +kernel
theorem dX8_notes_1 : decode cX8_notes 1 = .ok (.getfield 28, 3) := by decide +kernel
theorem dX8_notes_4 : decode cX8_notes 4 = .ok (.iconst 4, 1) := by decide +kernel
theorem dX8_notes_5 : decode cX8_notes 5 = .ok (.if_icmp .ne 44, 3) := by decide +kernel
theorem dX8_notes_8 : decode cX8_notes 8 = .ok (.iconst 0, 1) := by decide +kernel
theorem dX8_notes_9 : decode cX8_notes 9 = .ok (.istore_n 1, 1) := by decide +kernel
theorem dX8_notes_10 : decode cX8_notes 10 = .ok (.iload_n 1, 1) := by decide +kernel
theorem dX8_notes_11 : decode cX8_notes 11 = .ok (.sipush 2601, 3) := by decide +kernel
theorem dX8_notes_14 : decode cX8_notes 14 = .ok (.if_icmp .ge 25, 3) := by decide +kernel
theorem dX8_notes_17 : decode cX8_notes 17 = .ok (.aload_n 0, 1) := by decide +kernel
theorem dX8_notes_18 : decode cX8_notes 18 = .ok (.getfield 13, 3) := by decide +kernel
theorem dX8_notes_21 : decode cX8_notes 21 = .ok (.iload_n 1, 1) := by decide +kernel
theorem dX8_notes_22 : decode cX8_notes 22 = .ok (.aload_n 0, 1) := by decide +kernel
theorem dX8_notes_23 : decode cX8_notes 23 = .ok (.getfield 13, 3) := by decide +kernel
theorem dX8_notes_26 : decode cX8_notes 26 = .ok (.iload_n 1, 1) := by decide +kernel
theorem dX8_notes_27 : decode cX8_notes 27 = .ok (.sipush 867, 3) := by decide +kernel
theorem dX8_notes_30 : decode cX8_notes 30 = .ok (.iadd, 1) := by decide +kernel
theorem dX8_notes_31 : decode cX8_notes 31 = .ok (.iaload, 1) := by decide +kernel
theorem dX8_notes_32 : decode cX8_notes 32 = .ok (.iastore, 1) := by decide +kernel
theorem dX8_notes_33 : decode cX8_notes 33 = .ok (.iinc 1 1, 3) := by decide +kernel
theorem dX8_notes_36 : decode cX8_notes 36 = .ok (.goto (-26), 3) := by decide +kernel
theorem dX8_notes_39 : decode cX8_notes 39 = .ok (.aload_n 0, 1) := by decide +kernel
theorem dX8_notes_40 : decode cX8_notes 40 = .ok (.dup, 1) := by decide +kernel
theorem dX8_notes_41 : decode cX8_notes 41 = .ok (.getfield 28, 3) := by decide +kernel
theorem dX8_notes_44 : decode cX8_notes 44 = .ok (.iconst 1, 1) := by decide +kernel
theorem dX8_notes_45 : decode cX8_notes 45 = .ok (.isub, 1) := by decide +kernel
theorem dX8_notes_46 : decode cX8_notes 46 = .ok (.putfield 28, 3) := by decide +kernel
theorem dX8_notes_49 : decode cX8_notes 49 = .ok (.aload_n 0, 1) := by decide +kernel
theorem dX8_notes_50 : decode cX8_notes 50 = .ok (.getfield 7, 3) := by decide +kernel
theorem dX8_notes_53 : decode cX8_notes 53 = .ok (.iconst 0, 1) := by decide +kernel
theorem dX8_notes_54 : decode cX8_notes 54 = .ok (.aload_n 0, 1) := by decide +kernel
theorem dX8_notes_55 : decode cX8_notes 55 = .ok (.getfield 13, 3) := by decide +kernel
theorem dX8_notes_58 : decode cX8_notes 58 = .ok (.sipush 867, 3) := by decide +kernel
theorem dX8_notes_61 : decode cX8_notes 61 = .ok (.aload_n 0, 1) := by decide +kernel
theorem dX8_notes_62 : decode cX8_notes 62 = .ok (.getfield 28, 3) := by decide +kernel
theorem dX8_notes_65 : decode cX8_notes 65 = .ok (.imul, 1) := by decide +kernel
theorem dX8_notes_66 : decode cX8_notes 66 = .ok (.invokestatic 32, 3) := by decide +kernel
theorem dX8_notes_69 : decode cX8_notes 69 = .ok (.aload_n 0, 1) := by decide +kernel
theorem dX8_notes_70 : decode cX8_notes 70 = .ok (.dup, 1) := by decide +kernel
theorem dX8_notes_71 : decode cX8_notes 71 = .ok (.getfield 28, 3) := by decide +kernel
theorem dX8_notes_74 : decode cX8_notes 74 = .ok (.iconst 1, 1) := by decide +kernel
theorem dX8_notes_75 : decode cX8_notes 75 = .ok (.iadd, 1) := by decide +kernel
theorem dX8_notes_76 : decode cX8_notes 76 = .ok (.putfield 28, 3) := by decide +kernel
theorem dX8_notes_79 : decode cX8_notes 79 = .ok (.return_, 1) := by decide +kernel
theorem dX8_isSetting_0 : decode cX8_isSetting 0 = .ok (.iload_n 0, 1) := by decide +kernel
theorem dX8_isSetting_1 : decode cX8_isSetting 1 = .ok (.tableswitch 113 0 7 #[47, 55, 63, 71, 80, 89, 97, 105], 47) := by decide +kernel
theorem dX8_isSetting_48 : decode cX8_isSetting 48 = .ok (.iload_n 1, 1) := by decide +kernel
theorem dX8_isSetting_49 : decode cX8_isSetting 49 = .ok (.iconst 1, 1) := by decide +kernel
theorem dX8_isSetting_50 : decode cX8_isSetting 50 = .ok (.bipush 10, 2) := by decide +kernel
theorem dX8_isSetting_52 : decode cX8_isSetting 52 = .ok (.invokestatic 36, 3) := by decide +kernel
theorem dX8_isSetting_55 : decode cX8_isSetting 55 = .ok (.ireturn, 1) := by decide +kernel
theorem dX8_isSetting_56 : decode cX8_isSetting 56 = .ok (.iload_n 1, 1) := by decide +kernel
theorem dX8_isSetting_57 : decode cX8_isSetting 57 = .ok (.iconst 4, 1) := by decide +kernel
theorem dX8_isSetting_58 : decode cX8_isSetting 58 = .ok (.bipush 16, 2) := by decide +kernel
theorem dX8_isSetting_60 : decode cX8_isSetting 60 = .ok (.invokestatic 36, 3) := by decide +kernel
theorem dX8_isSetting_63 : decode cX8_isSetting 63 = .ok (.ireturn, 1) := by decide +kernel
theorem dX8_isSetting_64 : decode cX8_isSetting 64 = .ok (.iload_n 1, 1) := by decide +kernel
theorem dX8_isSetting_65 : decode cX8_isSetting 65 = .ok (.iconst 0, 1) := by decide +kernel
theorem dX8_isSetting_66 : decode cX8_isSetting 66 = .ok (.bipush 9, 2) := by decide +kernel
theorem dX8_isSetting_68 : decode cX8_isSetting 68 = .ok (.invokestatic 36, 3) := by decide +kernel
theorem dX8_isSetting_71 : decode cX8_isSetting 71 = .ok (.ireturn, 1) := by decide +kernel
theorem dX8_isSetting_72 : decode cX8_isSetting 72 = .ok (.iload_n 1, 1) := by decide +kernel
theorem dX8_isSetting_73 : decode cX8_isSetting 73 = .ok (.iconst 1, 1) := by decide +kernel
theorem dX8_isSetting_74 : decode cX8_isSetting 74 = .ok (.sipush 255, 3) := by decide +kernel
theorem dX8_isSetting_77 : decode cX8_isSetting 77 = .ok (.invokestatic 36, 3) := by decide +kernel
theorem dX8_isSetting_80 : decode cX8_isSetting 80 = .ok (.ireturn, 1) := by decide +kernel
theorem dX8_isSetting_81 : decode cX8_isSetting 81 = .ok (.iload_n 1, 1) := by decide +kernel
theorem dX8_isSetting_82 : decode cX8_isSetting 82 = .ok (.iconst 0, 1) := by decide +kernel
theorem dX8_isSetting_83 : decode cX8_isSetting 83 = .ok (.sipush 255, 3) := by decide +kernel
theorem dX8_isSetting_86 : decode cX8_isSetting 86 = .ok (.invokestatic 36, 3) := by decide +kernel
theorem dX8_isSetting_89 : decode cX8_isSetting 89 = .ok (.ireturn, 1) := by decide +kernel
theorem dX8_isSetting_90 : decode cX8_isSetting 90 = .ok (.iload_n 1, 1) := by decide +kernel
theorem dX8_isSetting_91 : decode cX8_isSetting 91 = .ok (.iconst 0, 1) := by decide +kernel
theorem dX8_isSetting_92 : decode cX8_isSetting 92 = .ok (.bipush 20, 2) := by decide +kernel
theorem dX8_isSetting_94 : decode cX8_isSetting 94 = .ok (.invokestatic 36, 3) := by decide +kernel
theorem dX8_isSetting_97 : decode cX8_isSetting 97 = .ok (.ireturn, 1) := by decide +kernel
theorem dX8_isSetting_98 : decode cX8_isSetting 98 = .ok (.iload_n 1, 1) := by decide +kernel
theorem dX8_isSetting_99 : decode cX8_isSetting 99 = .ok (.iconst 0, 1) := by decide +kernel
theorem dX8_isSetting_100 : decode cX8_isSetting 100 = .ok (.bipush 20, 2) := by decide +kernel
theorem dX8_isSetting_102 : decode cX8_isSetting 102 = .ok (.invokestatic 36, 3) := by decide +kernel
theorem dX8_isSetting_105 : decode cX8_isSetting 105 = .ok (.ireturn, 1) := by decide +kernel
theorem dX8_isSetting_106 : decode cX8_isSetting 106 = .ok (.iload_n 1, 1) := by decide +kernel
theorem dX8_isSetting_107 : decode cX8_isSetting 107 = .ok (.iconst 0, 1) := by decide +kernel
theorem dX8_isSetting_108 : decode cX8_isSetting 108 = .ok (.bipush 100, 2) := by decide +kernel
theorem dX8_isSetting_110 : decode cX8_isSetting 110 = .ok (.invokestatic 36, 3) := by decide +kernel
theorem dX8_isSetting_113 : decode cX8_isSetting 113 = .ok (.ireturn, 1) := by decide +kernel
theorem dX8_isSetting_114 : decode cX8_isSetting 114 = .ok (.iconst 0, 1) := by decide +kernel
theorem dX8_isSetting_115 : decode cX8_isSetting 115 = .ok (.ireturn, 1) := by decide +kernel
theorem dX8_set_0 : decode cX8_set 0 = .ok (.iload_n 1, 1) := by decide +kernel
theorem dX8_set_1 : decode cX8_set 1 = .ok (.iload_n 2, 1) := by decide +kernel
theorem dX8_set_2 : decode cX8_set 2 = .ok (.invokestatic 40, 3) := by decide +kernel
theorem dX8_set_5 : decode cX8_set 5 = .ok (.ifCond .ne 6, 3) := by decide +kernel
theorem dX8_set_8 : decode cX8_set 8 = .ok (.ldc 44, 2) := by decide +kernel
theorem dX8_set_10 : decode cX8_set 10 = .ok (.ireturn, 1) := by decide +kernel
theorem dX8_set_11 : decode cX8_set 11 = .ok (.iload_n 1, 1) := by decide +kernel
theorem dX8_set_12 : decode cX8_set 12 = .ok (.iconst 2, 1) := by decide +kernel
theorem dX8_set_13 : decode cX8_set 13 = .ok (.if_icmp .gt 16, 3) := by decide +kernel
theorem dX8_set_16 : decode cX8_set 16 = .ok (.aload_n 0, 1) := by decide +kernel
theorem dX8_set_17 : decode cX8_set 17 = .ok (.getfield 7, 3) := by decide +kernel
theorem dX8_set_20 : decode cX8_set 20 = .ok (.bipush 36, 2) := by decide +kernel
theorem dX8_set_22 : decode cX8_set 22 = .ok (.iaload, 1) := by decide +kernel
theorem dX8_set_23 : decode cX8_set 23 = .ok (.ifCond .le 6, 3) := by decide +kernel
theorem dX8_set_26 : decode cX8_set 26 = .ok (.ldc 45, 2) := by decide +kernel
theorem dX8_set_28 : decode cX8_set 28 = .ok (.ireturn, 1) := by decide +kernel
theorem dX8_set_29 : decode cX8_set 29 = .ok (.aload_n 0, 1) := by decide +kernel
theorem dX8_set_30 : decode cX8_set 30 = .ok (.invokevirtual 46, 3) := by decide +kernel
theorem dX8_set_33 : decode cX8_set 33 = .ok (.aload_n 0, 1) := by decide +kernel
theorem dX8_set_34 : decode cX8_set 34 = .ok (.getfield 7, 3) := by decide +kernel
theorem dX8_set_37 : decode cX8_set 37 = .ok (.iload_n 1, 1) := by decide +kernel
theorem dX8_set_38 : decode cX8_set 38 = .ok (.iaload, 1) := by decide +kernel
theorem dX8_set_39 : decode cX8_set 39 = .ok (.istore_n 3, 1) := by decide +kernel
theorem dX8_set_40 : decode cX8_set 40 = .ok (.aload_n 0, 1) := by decide +kernel
theorem dX8_set_41 : decode cX8_set 41 = .ok (.getfield 7, 3) := by decide +kernel
theorem dX8_set_44 : decode cX8_set 44 = .ok (.iload_n 1, 1) := by decide +kernel
theorem dX8_set_45 : decode cX8_set 45 = .ok (.iload_n 2, 1) := by decide +kernel
theorem dX8_set_46 : decode cX8_set 46 = .ok (.iastore, 1) := by decide +kernel
theorem dX8_set_47 : decode cX8_set 47 = .ok (.iload_n 3, 1) := by decide +kernel
theorem dX8_set_48 : decode cX8_set 48 = .ok (.ireturn, 1) := by decide +kernel
theorem dX8_wrongNumber_0 : decode cX8_wrongNumber 0 = .ok (.iload_n 0, 1) := by decide +kernel
theorem dX8_wrongNumber_1 : decode cX8_wrongNumber 1 = .ok (.iconst 0, 1) := by decide +kernel
theorem dX8_wrongNumber_2 : decode cX8_wrongNumber 2 = .ok (.bipush 9, 2) := by decide +kernel
theorem dX8_wrongNumber_4 : decode cX8_wrongNumber 4 = .ok (.invokestatic 36, 3) := by decide +kernel
theorem dX8_wrongNumber_7 : decode cX8_wrongNumber 7 = .ok (.ifCond .ne 5, 3) := by decide +kernel
theorem dX8_wrongNumber_10 : decode cX8_wrongNumber 10 = .ok (.iconst 0, 1) := by decide +kernel
theorem dX8_wrongNumber_11 : decode cX8_wrongNumber 11 = .ok (.ireturn, 1) := by decide +kernel
theorem dX8_wrongNumber_12 : decode cX8_wrongNumber 12 = .ok (.iload_n 1, 1) := by decide +kernel
theorem dX8_wrongNumber_13 : decode cX8_wrongNumber 13 = .ok (.iload_n 0, 1) := by decide +kernel
theorem dX8_wrongNumber_14 : decode cX8_wrongNumber 14 = .ok (.bipush 9, 2) := by decide +kernel
theorem dX8_wrongNumber_16 : decode cX8_wrongNumber 16 = .ok (.invokestatic 36, 3) := by decide +kernel
theorem dX8_wrongNumber_19 : decode cX8_wrongNumber 19 = .ok (.ifCond .ne 5, 3) := by decide +kernel
theorem dX8_wrongNumber_22 : decode cX8_wrongNumber 22 = .ok (.iconst 1, 1) := by decide +kernel
theorem dX8_wrongNumber_23 : decode cX8_wrongNumber 23 = .ok (.ireturn, 1) := by decide +kernel
theorem dX8_wrongNumber_24 : decode cX8_wrongNumber 24 = .ok (.iload_n 2, 1) := by decide +kernel
theorem dX8_wrongNumber_25 : decode cX8_wrongNumber 25 = .ok (.sipush (-20000), 3) := by decide +kernel
theorem dX8_wrongNumber_28 : decode cX8_wrongNumber 28 = .ok (.sipush 20000, 3) := by decide +kernel
theorem dX8_wrongNumber_31 : decode cX8_wrongNumber 31 = .ok (.invokestatic 36, 3) := by decide +kernel
theorem dX8_wrongNumber_34 : decode cX8_wrongNumber 34 = .ok (.ifCond .ne 5, 3) := by decide +kernel
theorem dX8_wrongNumber_37 : decode cX8_wrongNumber 37 = .ok (.iconst 2, 1) := by decide +kernel
theorem dX8_wrongNumber_38 : decode cX8_wrongNumber 38 = .ok (.ireturn, 1) := by decide +kernel
theorem dX8_wrongNumber_39 : decode cX8_wrongNumber 39 = .ok (.iload_n 3, 1) := by decide +kernel
theorem dX8_wrongNumber_40 : decode cX8_wrongNumber 40 = .ok (.sipush (-200), 3) := by decide +kernel
theorem dX8_wrongNumber_43 : decode cX8_wrongNumber 43 = .ok (.sipush 200, 3) := by decide +kernel
theorem dX8_wrongNumber_46 : decode cX8_wrongNumber 46 = .ok (.invokestatic 36, 3) := by decide +kernel
theorem dX8_wrongNumber_49 : decode cX8_wrongNumber 49 = .ok (.ifCond .ne 5, 3) := by decide +kernel
theorem dX8_wrongNumber_52 : decode cX8_wrongNumber 52 = .ok (.iconst 3, 1) := by decide +kernel
theorem dX8_wrongNumber_53 : decode cX8_wrongNumber 53 = .ok (.ireturn, 1) := by decide +kernel
theorem dX8_wrongNumber_54 : decode cX8_wrongNumber 54 = .ok (.iload 4, 2) := by decide +kernel
theorem dX8_wrongNumber_56 : decode cX8_wrongNumber 56 = .ok (.bipush 50, 2) := by decide +kernel
theorem dX8_wrongNumber_58 : decode cX8_wrongNumber 58 = .ok (.sipush 1600, 3) := by decide +kernel
theorem dX8_wrongNumber_61 : decode cX8_wrongNumber 61 = .ok (.invokestatic 36, 3) := by decide +kernel
theorem dX8_wrongNumber_64 : decode cX8_wrongNumber 64 = .ok (.ifCond .ne 5, 3) := by decide +kernel
theorem dX8_wrongNumber_67 : decode cX8_wrongNumber 67 = .ok (.iconst 4, 1) := by decide +kernel
theorem dX8_wrongNumber_68 : decode cX8_wrongNumber 68 = .ok (.ireturn, 1) := by decide +kernel
theorem dX8_wrongNumber_69 : decode cX8_wrongNumber 69 = .ok (.iload 5, 2) := by decide +kernel
theorem dX8_wrongNumber_71 : decode cX8_wrongNumber 71 = .ok (.iconst 0, 1) := by decide +kernel
theorem dX8_wrongNumber_72 : decode cX8_wrongNumber 72 = .ok (.sipush 255, 3) := by decide +kernel
theorem dX8_wrongNumber_75 : decode cX8_wrongNumber 75 = .ok (.invokestatic 36, 3) := by decide +kernel
theorem dX8_wrongNumber_78 : decode cX8_wrongNumber 78 = .ok (.ifCond .eq 8, 3) := by decide +kernel
theorem dX8_wrongNumber_81 : decode cX8_wrongNumber 81 = .ok (.ldc 49, 2) := by decide +kernel
theorem dX8_wrongNumber_83 : decode cX8_wrongNumber 83 = .ok (.goto 4, 3) := by decide +kernel
theorem dX8_wrongNumber_86 : decode cX8_wrongNumber 86 = .ok (.iconst 5, 1) := by decide +kernel
theorem dX8_wrongNumber_87 : decode cX8_wrongNumber 87 = .ok (.ireturn, 1) := by decide +kernel
theorem dX8_adds_0 : decode cX8_adds 0 = .ok (.bipush 9, 2) := by decide +kernel
theorem dX8_adds_2 : decode cX8_adds 2 = .ok (.bipush 6, 2) := by decide +kernel
theorem dX8_adds_4 : decode cX8_adds 4 = .ok (.aload_n 0, 1) := by decide +kernel
theorem dX8_adds_5 : decode cX8_adds 5 = .ok (.bipush 8, 2) := by decide +kernel
theorem dX8_adds_7 : decode cX8_adds 7 = .ok (.iaload, 1) := by decide +kernel
theorem dX8_adds_8 : decode cX8_adds 8 = .ok (.imul, 1) := by decide +kernel
theorem dX8_adds_9 : decode cX8_adds 9 = .ok (.iadd, 1) := by decide +kernel
theorem dX8_adds_10 : decode cX8_adds 10 = .ok (.istore 7, 2) := by decide +kernel
theorem dX8_adds_12 : decode cX8_adds 12 = .ok (.aload_n 0, 1) := by decide +kernel
theorem dX8_adds_13 : decode cX8_adds 13 = .ok (.iload 7, 2) := by decide +kernel
theorem dX8_adds_15 : decode cX8_adds 15 = .ok (.iload_n 1, 1) := by decide +kernel
theorem dX8_adds_16 : decode cX8_adds 16 = .ok (.iastore, 1) := by decide +kernel
theorem dX8_adds_17 : decode cX8_adds 17 = .ok (.aload_n 0, 1) := by decide +kernel
theorem dX8_adds_18 : decode cX8_adds 18 = .ok (.iload 7, 2) := by decide +kernel
theorem dX8_adds_20 : decode cX8_adds 20 = .ok (.iconst 1, 1) := by decide +kernel
theorem dX8_adds_21 : decode cX8_adds 21 = .ok (.iadd, 1) := by decide +kernel
theorem dX8_adds_22 : decode cX8_adds 22 = .ok (.iload_n 2, 1) := by decide +kernel
theorem dX8_adds_23 : decode cX8_adds 23 = .ok (.iastore, 1) := by decide +kernel
theorem dX8_adds_24 : decode cX8_adds 24 = .ok (.aload_n 0, 1) := by decide +kernel
theorem dX8_adds_25 : decode cX8_adds 25 = .ok (.iload 7, 2) := by decide +kernel
theorem dX8_adds_27 : decode cX8_adds 27 = .ok (.iconst 2, 1) := by decide +kernel
theorem dX8_adds_28 : decode cX8_adds 28 = .ok (.iadd, 1) := by decide +kernel
theorem dX8_adds_29 : decode cX8_adds 29 = .ok (.iload_n 3, 1) := by decide +kernel
theorem dX8_adds_30 : decode cX8_adds 30 = .ok (.iastore, 1) := by decide +kernel
theorem dX8_adds_31 : decode cX8_adds 31 = .ok (.aload_n 0, 1) := by decide +kernel
theorem dX8_adds_32 : decode cX8_adds 32 = .ok (.iload 7, 2) := by decide +kernel
theorem dX8_adds_34 : decode cX8_adds 34 = .ok (.iconst 3, 1) := by decide +kernel
theorem dX8_adds_35 : decode cX8_adds 35 = .ok (.iadd, 1) := by decide +kernel
theorem dX8_adds_36 : decode cX8_adds 36 = .ok (.iload 4, 2) := by decide +kernel
theorem dX8_adds_38 : decode cX8_adds 38 = .ok (.iastore, 1) := by decide +kernel
theorem dX8_adds_39 : decode cX8_adds 39 = .ok (.aload_n 0, 1) := by decide +kernel
theorem dX8_adds_40 : decode cX8_adds 40 = .ok (.iload 7, 2) := by decide +kernel
theorem dX8_adds_42 : decode cX8_adds 42 = .ok (.iconst 4, 1) := by decide +kernel
theorem dX8_adds_43 : decode cX8_adds 43 = .ok (.iadd, 1) := by decide +kernel
theorem dX8_adds_44 : decode cX8_adds 44 = .ok (.iload 5, 2) := by decide +kernel
theorem dX8_adds_46 : decode cX8_adds 46 = .ok (.iastore, 1) := by decide +kernel
theorem dX8_adds_47 : decode cX8_adds 47 = .ok (.aload_n 0, 1) := by decide +kernel
theorem dX8_adds_48 : decode cX8_adds 48 = .ok (.iload 7, 2) := by decide +kernel
theorem dX8_adds_50 : decode cX8_adds 50 = .ok (.iconst 5, 1) := by decide +kernel
theorem dX8_adds_51 : decode cX8_adds 51 = .ok (.iadd, 1) := by decide +kernel
theorem dX8_adds_52 : decode cX8_adds 52 = .ok (.iload 6, 2) := by decide +kernel
theorem dX8_adds_54 : decode cX8_adds 54 = .ok (.iastore, 1) := by decide +kernel
theorem dX8_adds_55 : decode cX8_adds 55 = .ok (.aload_n 0, 1) := by decide +kernel
theorem dX8_adds_56 : decode cX8_adds 56 = .ok (.bipush 8, 2) := by decide +kernel
theorem dX8_adds_58 : decode cX8_adds 58 = .ok (.dup2, 1) := by decide +kernel
theorem dX8_adds_59 : decode cX8_adds 59 = .ok (.iaload, 1) := by decide +kernel
theorem dX8_adds_60 : decode cX8_adds 60 = .ok (.iconst 1, 1) := by decide +kernel
theorem dX8_adds_61 : decode cX8_adds 61 = .ok (.iadd, 1) := by decide +kernel
theorem dX8_adds_62 : decode cX8_adds 62 = .ok (.iastore, 1) := by decide +kernel
theorem dX8_adds_63 : decode cX8_adds 63 = .ok (.return_, 1) := by decide +kernel
theorem dX8_thing_0 : decode cX8_thing 0 = .ok (.iload_n 1, 1) := by decide +kernel
theorem dX8_thing_1 : decode cX8_thing 1 = .ok (.iload_n 2, 1) := by decide +kernel
theorem dX8_thing_2 : decode cX8_thing 2 = .ok (.iload_n 3, 1) := by decide +kernel
theorem dX8_thing_3 : decode cX8_thing 3 = .ok (.iload 4, 2) := by decide +kernel
theorem dX8_thing_5 : decode cX8_thing 5 = .ok (.iload 5, 2) := by decide +kernel
theorem dX8_thing_7 : decode cX8_thing 7 = .ok (.iload 6, 2) := by decide +kernel
theorem dX8_thing_9 : decode cX8_thing 9 = .ok (.invokestatic 50, 3) := by decide +kernel
theorem dX8_thing_12 : decode cX8_thing 12 = .ok (.ldc 49, 2) := by decide +kernel
theorem dX8_thing_14 : decode cX8_thing 14 = .ok (.if_icmp .eq 6, 3) := by decide +kernel
theorem dX8_thing_17 : decode cX8_thing 17 = .ok (.ldc 44, 2) := by decide +kernel
theorem dX8_thing_19 : decode cX8_thing 19 = .ok (.ireturn, 1) := by decide +kernel
theorem dX8_thing_20 : decode cX8_thing 20 = .ok (.aload_n 0, 1) := by decide +kernel
theorem dX8_thing_21 : decode cX8_thing 21 = .ok (.getfield 7, 3) := by decide +kernel
theorem dX8_thing_24 : decode cX8_thing 24 = .ok (.bipush 8, 2) := by decide +kernel
theorem dX8_thing_26 : decode cX8_thing 26 = .ok (.iaload, 1) := by decide +kernel
theorem dX8_thing_27 : decode cX8_thing 27 = .ok (.iconst 4, 1) := by decide +kernel
theorem dX8_thing_28 : decode cX8_thing 28 = .ok (.if_icmp .ne 6, 3) := by decide +kernel
theorem dX8_thing_31 : decode cX8_thing 31 = .ok (.ldc 54, 2) := by decide +kernel
theorem dX8_thing_33 : decode cX8_thing 33 = .ok (.ireturn, 1) := by decide +kernel
theorem dX8_thing_34 : decode cX8_thing 34 = .ok (.aload_n 0, 1) := by decide +kernel
theorem dX8_thing_35 : decode cX8_thing 35 = .ok (.invokevirtual 46, 3) := by decide +kernel
theorem dX8_thing_38 : decode cX8_thing 38 = .ok (.aload_n 0, 1) := by decide +kernel
theorem dX8_thing_39 : decode cX8_thing 39 = .ok (.getfield 7, 3) := by decide +kernel
theorem dX8_thing_42 : decode cX8_thing 42 = .ok (.iload_n 1, 1) := by decide +kernel
theorem dX8_thing_43 : decode cX8_thing 43 = .ok (.iload_n 2, 1) := by decide +kernel
theorem dX8_thing_44 : decode cX8_thing 44 = .ok (.iload_n 3, 1) := by decide +kernel
theorem dX8_thing_45 : decode cX8_thing 45 = .ok (.iload 4, 2) := by decide +kernel
theorem dX8_thing_47 : decode cX8_thing 47 = .ok (.iload 5, 2) := by decide +kernel
theorem dX8_thing_49 : decode cX8_thing 49 = .ok (.iload 6, 2) := by decide +kernel
theorem dX8_thing_51 : decode cX8_thing 51 = .ok (.invokestatic 55, 3) := by decide +kernel
theorem dX8_thing_54 : decode cX8_thing 54 = .ok (.aload_n 0, 1) := by decide +kernel
theorem dX8_thing_55 : decode cX8_thing 55 = .ok (.getfield 7, 3) := by decide +kernel
theorem dX8_thing_58 : decode cX8_thing 58 = .ok (.bipush 8, 2) := by decide +kernel
theorem dX8_thing_60 : decode cX8_thing 60 = .ok (.iaload, 1) := by decide +kernel
theorem dX8_thing_61 : decode cX8_thing 61 = .ok (.iconst 1, 1) := by decide +kernel
theorem dX8_thing_62 : decode cX8_thing 62 = .ok (.isub, 1) := by decide +kernel
theorem dX8_thing_63 : decode cX8_thing 63 = .ok (.ireturn, 1) := by decide +kernel
theorem dX8_isThing_0 : decode cX8_isThing 0 = .ok (.iload_n 1, 1) := by decide +kernel
theorem dX8_isThing_1 : decode cX8_isThing 1 = .ok (.iconst 0, 1) := by decide +kernel
theorem dX8_isThing_2 : decode cX8_isThing 2 = .ok (.aload_n 0, 1) := by decide +kernel
theorem dX8_isThing_3 : decode cX8_isThing 3 = .ok (.getfield 7, 3) := by decide +kernel
theorem dX8_isThing_6 : decode cX8_isThing 6 = .ok (.bipush 8, 2) := by decide +kernel
theorem dX8_isThing_8 : decode cX8_isThing 8 = .ok (.iaload, 1) := by decide +kernel
theorem dX8_isThing_9 : decode cX8_isThing 9 = .ok (.iconst 1, 1) := by decide +kernel
theorem dX8_isThing_10 : decode cX8_isThing 10 = .ok (.isub, 1) := by decide +kernel
theorem dX8_isThing_11 : decode cX8_isThing 11 = .ok (.invokestatic 36, 3) := by decide +kernel
theorem dX8_isThing_14 : decode cX8_isThing 14 = .ok (.ireturn, 1) := by decide +kernel
theorem dX8_placeAt_0 : decode cX8_placeAt 0 = .ok (.bipush 9, 2) := by decide +kernel
theorem dX8_placeAt_2 : decode cX8_placeAt 2 = .ok (.bipush 6, 2) := by decide +kernel
theorem dX8_placeAt_4 : decode cX8_placeAt 4 = .ok (.iload_n 1, 1) := by decide +kernel
theorem dX8_placeAt_5 : decode cX8_placeAt 5 = .ok (.imul, 1) := by decide +kernel
theorem dX8_placeAt_6 : decode cX8_placeAt 6 = .ok (.iadd, 1) := by decide +kernel
theorem dX8_placeAt_7 : decode cX8_placeAt 7 = .ok (.istore_n 3, 1) := by decide +kernel
theorem dX8_placeAt_8 : decode cX8_placeAt 8 = .ok (.aload_n 0, 1) := by decide +kernel
theorem dX8_placeAt_9 : decode cX8_placeAt 9 = .ok (.iload_n 3, 1) := by decide +kernel
theorem dX8_placeAt_10 : decode cX8_placeAt 10 = .ok (.iconst 2, 1) := by decide +kernel
theorem dX8_placeAt_11 : decode cX8_placeAt 11 = .ok (.iadd, 1) := by decide +kernel
theorem dX8_placeAt_12 : decode cX8_placeAt 12 = .ok (.iaload, 1) := by decide +kernel
theorem dX8_placeAt_13 : decode cX8_placeAt 13 = .ok (.aload_n 0, 1) := by decide +kernel
theorem dX8_placeAt_14 : decode cX8_placeAt 14 = .ok (.iload_n 3, 1) := by decide +kernel
theorem dX8_placeAt_15 : decode cX8_placeAt 15 = .ok (.iconst 3, 1) := by decide +kernel
theorem dX8_placeAt_16 : decode cX8_placeAt 16 = .ok (.iadd, 1) := by decide +kernel
theorem dX8_placeAt_17 : decode cX8_placeAt 17 = .ok (.iaload, 1) := by decide +kernel
theorem dX8_placeAt_18 : decode cX8_placeAt 18 = .ok (.iload_n 2, 1) := by decide +kernel
theorem dX8_placeAt_19 : decode cX8_placeAt 19 = .ok (.imul, 1) := by decide +kernel
theorem dX8_placeAt_20 : decode cX8_placeAt 20 = .ok (.iadd, 1) := by decide +kernel
theorem dX8_placeAt_21 : decode cX8_placeAt 21 = .ok (.ireturn, 1) := by decide +kernel
theorem dX8_turn_0 : decode cX8_turn 0 = .ok (.aload_n 0, 1) := by decide +kernel
theorem dX8_turn_1 : decode cX8_turn 1 = .ok (.iload_n 1, 1) := by decide +kernel
theorem dX8_turn_2 : decode cX8_turn 2 = .ok (.invokevirtual 59, 3) := by decide +kernel
theorem dX8_turn_5 : decode cX8_turn 5 = .ok (.ifCond .eq 16, 3) := by decide +kernel
theorem dX8_turn_8 : decode cX8_turn 8 = .ok (.iload_n 2, 1) := by decide +kernel
theorem dX8_turn_9 : decode cX8_turn 9 = .ok (.sipush (-200), 3) := by decide +kernel
theorem dX8_turn_12 : decode cX8_turn 12 = .ok (.sipush 200, 3) := by decide +kernel
theorem dX8_turn_15 : decode cX8_turn 15 = .ok (.invokestatic 36, 3) := by decide +kernel
theorem dX8_turn_18 : decode cX8_turn 18 = .ok (.ifCond .ne 6, 3) := by decide +kernel
theorem dX8_turn_21 : decode cX8_turn 21 = .ok (.ldc 44, 2) := by decide +kernel
theorem dX8_turn_23 : decode cX8_turn 23 = .ok (.ireturn, 1) := by decide +kernel
theorem dX8_turn_24 : decode cX8_turn 24 = .ok (.aload_n 0, 1) := by decide +kernel
theorem dX8_turn_25 : decode cX8_turn 25 = .ok (.invokevirtual 46, 3) := by decide +kernel
theorem dX8_turn_28 : decode cX8_turn 28 = .ok (.bipush 9, 2) := by decide +kernel
theorem dX8_turn_30 : decode cX8_turn 30 = .ok (.bipush 6, 2) := by decide +kernel
theorem dX8_turn_32 : decode cX8_turn 32 = .ok (.iload_n 1, 1) := by decide +kernel
theorem dX8_turn_33 : decode cX8_turn 33 = .ok (.imul, 1) := by decide +kernel
theorem dX8_turn_34 : decode cX8_turn 34 = .ok (.iadd, 1) := by decide +kernel
theorem dX8_turn_35 : decode cX8_turn 35 = .ok (.istore_n 3, 1) := by decide +kernel
theorem dX8_turn_36 : decode cX8_turn 36 = .ok (.aload_n 0, 1) := by decide +kernel
theorem dX8_turn_37 : decode cX8_turn 37 = .ok (.getfield 7, 3) := by decide +kernel
theorem dX8_turn_40 : decode cX8_turn 40 = .ok (.iload_n 3, 1) := by decide +kernel
theorem dX8_turn_41 : decode cX8_turn 41 = .ok (.iconst 3, 1) := by decide +kernel
theorem dX8_turn_42 : decode cX8_turn 42 = .ok (.iadd, 1) := by decide +kernel
theorem dX8_turn_43 : decode cX8_turn 43 = .ok (.iaload, 1) := by decide +kernel
theorem dX8_turn_44 : decode cX8_turn 44 = .ok (.istore 4, 2) := by decide +kernel
theorem dX8_turn_46 : decode cX8_turn 46 = .ok (.aload_n 0, 1) := by decide +kernel
theorem dX8_turn_47 : decode cX8_turn 47 = .ok (.getfield 7, 3) := by decide +kernel
theorem dX8_turn_50 : decode cX8_turn 50 = .ok (.iload_n 3, 1) := by decide +kernel
theorem dX8_turn_51 : decode cX8_turn 51 = .ok (.iconst 2, 1) := by decide +kernel
theorem dX8_turn_52 : decode cX8_turn 52 = .ok (.iadd, 1) := by decide +kernel
theorem dX8_turn_53 : decode cX8_turn 53 = .ok (.aload_n 0, 1) := by decide +kernel
theorem dX8_turn_54 : decode cX8_turn 54 = .ok (.getfield 7, 3) := by decide +kernel
theorem dX8_turn_57 : decode cX8_turn 57 = .ok (.iload_n 1, 1) := by decide +kernel
theorem dX8_turn_58 : decode cX8_turn 58 = .ok (.aload_n 0, 1) := by decide +kernel
theorem dX8_turn_59 : decode cX8_turn 59 = .ok (.getfield 7, 3) := by decide +kernel
theorem dX8_turn_62 : decode cX8_turn 62 = .ok (.bipush 33, 2) := by decide +kernel
theorem dX8_turn_64 : decode cX8_turn 64 = .ok (.iaload, 1) := by decide +kernel
theorem dX8_turn_65 : decode cX8_turn 65 = .ok (.invokestatic 63, 3) := by decide +kernel
theorem dX8_turn_68 : decode cX8_turn 68 = .ok (.iload_n 2, 1) := by decide +kernel
theorem dX8_turn_69 : decode cX8_turn 69 = .ok (.aload_n 0, 1) := by decide +kernel
theorem dX8_turn_70 : decode cX8_turn 70 = .ok (.getfield 7, 3) := by decide +kernel
theorem dX8_turn_73 : decode cX8_turn 73 = .ok (.bipush 33, 2) := by decide +kernel
theorem dX8_turn_75 : decode cX8_turn 75 = .ok (.iaload, 1) := by decide +kernel
theorem dX8_turn_76 : decode cX8_turn 76 = .ok (.imul, 1) := by decide +kernel
theorem dX8_turn_77 : decode cX8_turn 77 = .ok (.isub, 1) := by decide +kernel
theorem dX8_turn_78 : decode cX8_turn 78 = .ok (.iastore, 1) := by decide +kernel
theorem dX8_turn_79 : decode cX8_turn 79 = .ok (.aload_n 0, 1) := by decide +kernel
theorem dX8_turn_80 : decode cX8_turn 80 = .ok (.getfield 7, 3) := by decide +kernel
theorem dX8_turn_83 : decode cX8_turn 83 = .ok (.iload_n 3, 1) := by decide +kernel
theorem dX8_turn_84 : decode cX8_turn 84 = .ok (.iconst 3, 1) := by decide +kernel
theorem dX8_turn_85 : decode cX8_turn 85 = .ok (.iadd, 1) := by decide +kernel
theorem dX8_turn_86 : decode cX8_turn 86 = .ok (.iload_n 2, 1) := by decide +kernel
theorem dX8_turn_87 : decode cX8_turn 87 = .ok (.iastore, 1) := by decide +kernel
theorem dX8_turn_88 : decode cX8_turn 88 = .ok (.iload 4, 2) := by decide +kernel
theorem dX8_turn_90 : decode cX8_turn 90 = .ok (.ireturn, 1) := by decide +kernel
theorem dX8_thingOf_0 : decode cX8_thingOf 0 = .ok (.aload_n 0, 1) := by decide +kernel
theorem dX8_thingOf_1 : decode cX8_thingOf 1 = .ok (.iload_n 1, 1) := by decide +kernel
theorem dX8_thingOf_2 : decode cX8_thingOf 2 = .ok (.invokevirtual 59, 3) := by decide +kernel
theorem dX8_thingOf_5 : decode cX8_thingOf 5 = .ok (.ifCond .eq 13, 3) := by decide +kernel
theorem dX8_thingOf_8 : decode cX8_thingOf 8 = .ok (.iload_n 2, 1) := by decide +kernel
theorem dX8_thingOf_9 : decode cX8_thingOf 9 = .ok (.iconst 0, 1) := by decide +kernel
theorem dX8_thingOf_10 : decode cX8_thingOf 10 = .ok (.bipush 6, 2) := by decide +kernel
theorem dX8_thingOf_12 : decode cX8_thingOf 12 = .ok (.invokestatic 36, 3) := by decide +kernel
theorem dX8_thingOf_15 : decode cX8_thingOf 15 = .ok (.ifCond .ne 6, 3) := by decide +kernel
theorem dX8_thingOf_18 : decode cX8_thingOf 18 = .ok (.ldc 44, 2) := by decide +kernel
theorem dX8_thingOf_20 : decode cX8_thingOf 20 = .ok (.ireturn, 1) := by decide +kernel
theorem dX8_thingOf_21 : decode cX8_thingOf 21 = .ok (.iload_n 2, 1) := by decide +kernel
theorem dX8_thingOf_22 : decode cX8_thingOf 22 = .ok (.bipush 6, 2) := by decide +kernel
theorem dX8_thingOf_24 : decode cX8_thingOf 24 = .ok (.if_icmp .ne 21, 3) := by decide +kernel
theorem dX8_thingOf_27 : decode cX8_thingOf 27 = .ok (.aload_n 0, 1) := by decide +kernel
theorem dX8_thingOf_28 : decode cX8_thingOf 28 = .ok (.getfield 7, 3) := by decide +kernel
theorem dX8_thingOf_31 : decode cX8_thingOf 31 = .ok (.iload_n 1, 1) := by decide +kernel
theorem dX8_thingOf_32 : decode cX8_thingOf 32 = .ok (.aload_n 0, 1) := by decide +kernel
theorem dX8_thingOf_33 : decode cX8_thingOf 33 = .ok (.getfield 7, 3) := by decide +kernel
theorem dX8_thingOf_36 : decode cX8_thingOf 36 = .ok (.bipush 33, 2) := by decide +kernel
theorem dX8_thingOf_38 : decode cX8_thingOf 38 = .ok (.iaload, 1) := by decide +kernel
theorem dX8_thingOf_39 : decode cX8_thingOf 39 = .ok (.invokestatic 63, 3) := by decide +kernel
theorem dX8_thingOf_42 : decode cX8_thingOf 42 = .ok (.goto 17, 3) := by decide +kernel
theorem dX8_thingOf_45 : decode cX8_thingOf 45 = .ok (.aload_n 0, 1) := by decide +kernel
theorem dX8_thingOf_46 : decode cX8_thingOf 46 = .ok (.getfield 7, 3) := by decide +kernel
theorem dX8_thingOf_49 : decode cX8_thingOf 49 = .ok (.bipush 9, 2) := by decide +kernel
theorem dX8_thingOf_51 : decode cX8_thingOf 51 = .ok (.bipush 6, 2) := by decide +kernel
theorem dX8_thingOf_53 : decode cX8_thingOf 53 = .ok (.iload_n 1, 1) := by decide +kernel
theorem dX8_thingOf_54 : decode cX8_thingOf 54 = .ok (.imul, 1) := by decide +kernel
theorem dX8_thingOf_55 : decode cX8_thingOf 55 = .ok (.iadd, 1) := by decide +kernel
theorem dX8_thingOf_56 : decode cX8_thingOf 56 = .ok (.iload_n 2, 1) := by decide +kernel
theorem dX8_thingOf_57 : decode cX8_thingOf 57 = .ok (.iadd, 1) := by decide +kernel
theorem dX8_thingOf_58 : decode cX8_thingOf 58 = .ok (.iaload, 1) := by decide +kernel
theorem dX8_thingOf_59 : decode cX8_thingOf 59 = .ok (.ireturn, 1) := by decide +kernel
theorem dX8_blind_0 : decode cX8_blind 0 = .ok (.iload_n 1, 1) := by decide +kernel
theorem dX8_blind_1 : decode cX8_blind 1 = .ok (.iconst 0, 1) := by decide +kernel
theorem dX8_blind_2 : decode cX8_blind 2 = .ok (.bipush 9, 2) := by decide +kernel
theorem dX8_blind_4 : decode cX8_blind 4 = .ok (.invokestatic 36, 3) := by decide +kernel
theorem dX8_blind_7 : decode cX8_blind 7 = .ok (.ifCond .eq 12, 3) := by decide +kernel
theorem dX8_blind_10 : decode cX8_blind 10 = .ok (.iload_n 2, 1) := by decide +kernel
theorem dX8_blind_11 : decode cX8_blind 11 = .ok (.iconst 0, 1) := by decide +kernel
theorem dX8_blind_12 : decode cX8_blind 12 = .ok (.iconst 1, 1) := by decide +kernel
theorem dX8_blind_13 : decode cX8_blind 13 = .ok (.invokestatic 36, 3) := by decide +kernel
theorem dX8_blind_16 : decode cX8_blind 16 = .ok (.ifCond .ne 6, 3) := by decide +kernel
theorem dX8_blind_19 : decode cX8_blind 19 = .ok (.ldc 44, 2) := by decide +kernel
theorem dX8_blind_21 : decode cX8_blind 21 = .ok (.ireturn, 1) := by decide +kernel
theorem dX8_blind_22 : decode cX8_blind 22 = .ok (.aload_n 0, 1) := by decide +kernel
theorem dX8_blind_23 : decode cX8_blind 23 = .ok (.getfield 7, 3) := by decide +kernel
theorem dX8_blind_26 : decode cX8_blind 26 = .ok (.bipush 34, 2) := by decide +kernel
theorem dX8_blind_28 : decode cX8_blind 28 = .ok (.iaload, 1) := by decide +kernel
theorem dX8_blind_29 : decode cX8_blind 29 = .ok (.iload_n 1, 1) := by decide +kernel
theorem dX8_blind_30 : decode cX8_blind 30 = .ok (.ishr, 1) := by decide +kernel
theorem dX8_blind_31 : decode cX8_blind 31 = .ok (.iconst 1, 1) := by decide +kernel
theorem dX8_blind_32 : decode cX8_blind 32 = .ok (.iand, 1) := by decide +kernel
theorem dX8_blind_33 : decode cX8_blind 33 = .ok (.iload_n 2, 1) := by decide +kernel
theorem dX8_blind_34 : decode cX8_blind 34 = .ok (.if_icmp .ne 6, 3) := by decide +kernel
theorem dX8_blind_37 : decode cX8_blind 37 = .ok (.ldc 45, 2) := by decide +kernel
theorem dX8_blind_39 : decode cX8_blind 39 = .ok (.ireturn, 1) := by decide +kernel
theorem dX8_blind_40 : decode cX8_blind 40 = .ok (.aload_n 0, 1) := by decide +kernel
theorem dX8_blind_41 : decode cX8_blind 41 = .ok (.invokevirtual 46, 3) := by decide +kernel
theorem dX8_blind_44 : decode cX8_blind 44 = .ok (.aload_n 0, 1) := by decide +kernel
theorem dX8_blind_45 : decode cX8_blind 45 = .ok (.getfield 7, 3) := by decide +kernel
theorem dX8_blind_48 : decode cX8_blind 48 = .ok (.bipush 34, 2) := by decide +kernel
theorem dX8_blind_50 : decode cX8_blind 50 = .ok (.dup2, 1) := by decide +kernel
theorem dX8_blind_51 : decode cX8_blind 51 = .ok (.iaload, 1) := by decide +kernel
theorem dX8_blind_52 : decode cX8_blind 52 = .ok (.iconst 1, 1) := by decide +kernel
theorem dX8_blind_53 : decode cX8_blind 53 = .ok (.iload_n 1, 1) := by decide +kernel
theorem dX8_blind_54 : decode cX8_blind 54 = .ok (.ishl, 1) := by decide +kernel
theorem dX8_blind_55 : decode cX8_blind 55 = .ok (.ixor, 1) := by decide +kernel
theorem dX8_blind_56 : decode cX8_blind 56 = .ok (.iastore, 1) := by decide +kernel
theorem dX8_blind_57 : decode cX8_blind 57 = .ok (.aload_n 0, 1) := by decide +kernel
theorem dX8_blind_58 : decode cX8_blind 58 = .ok (.getfield 7, 3) := by decide +kernel
theorem dX8_blind_61 : decode cX8_blind 61 = .ok (.bipush 34, 2) := by decide +kernel
theorem dX8_blind_63 : decode cX8_blind 63 = .ok (.iaload, 1) := by decide +kernel
theorem dX8_blind_64 : decode cX8_blind 64 = .ok (.invokestatic 67, 3) := by decide +kernel
theorem dX8_blind_67 : decode cX8_blind 67 = .ok (.ireturn, 1) := by decide +kernel
theorem dX8_isDark_0 : decode cX8_isDark 0 = .ok (.aload_n 0, 1) := by decide +kernel
theorem dX8_isDark_1 : decode cX8_isDark 1 = .ok (.iconst 5, 1) := by decide +kernel
theorem dX8_isDark_2 : decode cX8_isDark 2 = .ok (.iaload, 1) := by decide +kernel
theorem dX8_isDark_3 : decode cX8_isDark 3 = .ok (.ifCond .eq 19, 3) := by decide +kernel
theorem dX8_isDark_6 : decode cX8_isDark 6 = .ok (.iload_n 1, 1) := by decide +kernel
theorem dX8_isDark_7 : decode cX8_isDark 7 = .ok (.aload_n 0, 1) := by decide +kernel
theorem dX8_isDark_8 : decode cX8_isDark 8 = .ok (.iconst 5, 1) := by decide +kernel
theorem dX8_isDark_9 : decode cX8_isDark 9 = .ok (.iaload, 1) := by decide +kernel
theorem dX8_isDark_10 : decode cX8_isDark 10 = .ok (.irem, 1) := by decide +kernel
theorem dX8_isDark_11 : decode cX8_isDark 11 = .ok (.aload_n 0, 1) := by decide +kernel
theorem dX8_isDark_12 : decode cX8_isDark 12 = .ok (.bipush 6, 2) := by decide +kernel
theorem dX8_isDark_14 : decode cX8_isDark 14 = .ok (.iaload, 1) := by decide +kernel
theorem dX8_isDark_15 : decode cX8_isDark 15 = .ok (.if_icmp .ge 7, 3) := by decide +kernel
theorem dX8_isDark_18 : decode cX8_isDark 18 = .ok (.iconst 1, 1) := by decide +kernel
theorem dX8_isDark_19 : decode cX8_isDark 19 = .ok (.goto 4, 3) := by decide +kernel
theorem dX8_isDark_22 : decode cX8_isDark 22 = .ok (.iconst 0, 1) := by decide +kernel
theorem dX8_isDark_23 : decode cX8_isDark 23 = .ok (.ireturn, 1) := by decide +kernel
theorem dX8_covers_0 : decode cX8_covers 0 = .ok (.bipush 9, 2) := by decide +kernel
theorem dX8_covers_2 : decode cX8_covers 2 = .ok (.bipush 6, 2) := by decide +kernel
theorem dX8_covers_4 : decode cX8_covers 4 = .ok (.iload_n 1, 1) := by decide +kernel
theorem dX8_covers_5 : decode cX8_covers 5 = .ok (.imul, 1) := by decide +kernel
theorem dX8_covers_6 : decode cX8_covers 6 = .ok (.iadd, 1) := by decide +kernel
theorem dX8_covers_7 : decode cX8_covers 7 = .ok (.istore 5, 2) := by decide +kernel
theorem dX8_covers_9 : decode cX8_covers 9 = .ok (.aload_n 0, 1) := by decide +kernel
theorem dX8_covers_10 : decode cX8_covers 10 = .ok (.iload_n 1, 1) := by decide +kernel
theorem dX8_covers_11 : decode cX8_covers 11 = .ok (.iload 4, 2) := by decide +kernel
theorem dX8_covers_13 : decode cX8_covers 13 = .ok (.invokestatic 63, 3) := by decide +kernel
theorem dX8_covers_16 : decode cX8_covers 16 = .ok (.istore 6, 2) := by decide +kernel
theorem dX8_covers_18 : decode cX8_covers 18 = .ok (.bipush 100, 2) := by decide +kernel
theorem dX8_covers_20 : decode cX8_covers 20 = .ok (.iload_n 3, 1) := by decide +kernel
theorem dX8_covers_21 : decode cX8_covers 21 = .ok (.imul, 1) := by decide +kernel
theorem dX8_covers_22 : decode cX8_covers 22 = .ok (.bipush 50, 2) := by decide +kernel
theorem dX8_covers_24 : decode cX8_covers 24 = .ok (.iadd, 1) := by decide +kernel
theorem dX8_covers_25 : decode cX8_covers 25 = .ok (.istore 7, 2) := by decide +kernel
theorem dX8_covers_27 : decode cX8_covers 27 = .ok (.iload_n 2, 1) := by decide +kernel
theorem dX8_covers_28 : decode cX8_covers 28 = .ok (.aload_n 0, 1) := by decide +kernel
theorem dX8_covers_29 : decode cX8_covers 29 = .ok (.iload 5, 2) := by decide +kernel
theorem dX8_covers_31 : decode cX8_covers 31 = .ok (.iaload, 1) := by decide +kernel
theorem dX8_covers_32 : decode cX8_covers 32 = .ok (.if_icmp .lt 38, 3) := by decide +kernel
theorem dX8_covers_35 : decode cX8_covers 35 = .ok (.iload_n 2, 1) := by decide +kernel
theorem dX8_covers_36 : decode cX8_covers 36 = .ok (.aload_n 0, 1) := by decide +kernel
theorem dX8_covers_37 : decode cX8_covers 37 = .ok (.iload 5, 2) := by decide +kernel
theorem dX8_covers_39 : decode cX8_covers 39 = .ok (.iconst 1, 1) := by decide +kernel
theorem dX8_covers_40 : decode cX8_covers 40 = .ok (.iadd, 1) := by decide +kernel
theorem dX8_covers_41 : decode cX8_covers 41 = .ok (.iaload, 1) := by decide +kernel
theorem dX8_covers_42 : decode cX8_covers 42 = .ok (.if_icmp .gt 28, 3) := by decide +kernel
theorem dX8_covers_45 : decode cX8_covers 45 = .ok (.iload 6, 2) := by decide +kernel
theorem dX8_covers_47 : decode cX8_covers 47 = .ok (.iload 7, 2) := by decide +kernel
theorem dX8_covers_49 : decode cX8_covers 49 = .ok (.if_icmp .gt 21, 3) := by decide +kernel
theorem dX8_covers_52 : decode cX8_covers 52 = .ok (.iload 6, 2) := by decide +kernel
theorem dX8_covers_54 : decode cX8_covers 54 = .ok (.aload_n 0, 1) := by decide +kernel
theorem dX8_covers_55 : decode cX8_covers 55 = .ok (.iload 5, 2) := by decide +kernel
theorem dX8_covers_57 : decode cX8_covers 57 = .ok (.iconst 4, 1) := by decide +kernel
theorem dX8_covers_58 : decode cX8_covers 58 = .ok (.iadd, 1) := by decide +kernel
theorem dX8_covers_59 : decode cX8_covers 59 = .ok (.iaload, 1) := by decide +kernel
theorem dX8_covers_60 : decode cX8_covers 60 = .ok (.iadd, 1) := by decide +kernel
theorem dX8_covers_61 : decode cX8_covers 61 = .ok (.iload 7, 2) := by decide +kernel
theorem dX8_covers_63 : decode cX8_covers 63 = .ok (.if_icmp .le 7, 3) := by decide +kernel
theorem dX8_covers_66 : decode cX8_covers 66 = .ok (.iconst 1, 1) := by decide +kernel
theorem dX8_covers_67 : decode cX8_covers 67 = .ok (.goto 4, 3) := by decide +kernel
theorem dX8_covers_70 : decode cX8_covers 70 = .ok (.iconst 0, 1) := by decide +kernel
theorem dX8_covers_71 : decode cX8_covers 71 = .ok (.ireturn, 1) := by decide +kernel
theorem dX8_shown_0 : decode cX8_shown 0 = .ok (.aload_n 0, 1) := by decide +kernel
theorem dX8_shown_1 : decode cX8_shown 1 = .ok (.iconst 4, 1) := by decide +kernel
theorem dX8_shown_2 : decode cX8_shown 2 = .ok (.iaload, 1) := by decide +kernel
theorem dX8_shown_3 : decode cX8_shown 3 = .ok (.istore 4, 2) := by decide +kernel
theorem dX8_shown_5 : decode cX8_shown 5 = .ok (.iconst 0, 1) := by decide +kernel
theorem dX8_shown_6 : decode cX8_shown 6 = .ok (.istore 5, 2) := by decide +kernel
theorem dX8_shown_8 : decode cX8_shown 8 = .ok (.iload 5, 2) := by decide +kernel
theorem dX8_shown_10 : decode cX8_shown 10 = .ok (.aload_n 0, 1) := by decide +kernel
theorem dX8_shown_11 : decode cX8_shown 11 = .ok (.bipush 8, 2) := by decide +kernel
theorem dX8_shown_13 : decode cX8_shown 13 = .ok (.iaload, 1) := by decide +kernel
theorem dX8_shown_14 : decode cX8_shown 14 = .ok (.if_icmp .ge 40, 3) := by decide +kernel
theorem dX8_shown_17 : decode cX8_shown 17 = .ok (.aload_n 0, 1) := by decide +kernel
theorem dX8_shown_18 : decode cX8_shown 18 = .ok (.iload 5, 2) := by decide +kernel
theorem dX8_shown_20 : decode cX8_shown 20 = .ok (.iload_n 1, 1) := by decide +kernel
theorem dX8_shown_21 : decode cX8_shown 21 = .ok (.iload_n 2, 1) := by decide +kernel
theorem dX8_shown_22 : decode cX8_shown 22 = .ok (.iload_n 3, 1) := by decide +kernel
theorem dX8_shown_23 : decode cX8_shown 23 = .ok (.invokestatic 71, 3) := by decide +kernel
theorem dX8_shown_26 : decode cX8_shown 26 = .ok (.ifCond .eq 18, 3) := by decide +kernel
theorem dX8_shown_29 : decode cX8_shown 29 = .ok (.aload_n 0, 1) := by decide +kernel
theorem dX8_shown_30 : decode cX8_shown 30 = .ok (.bipush 9, 2) := by decide +kernel
theorem dX8_shown_32 : decode cX8_shown 32 = .ok (.bipush 6, 2) := by decide +kernel
theorem dX8_shown_34 : decode cX8_shown 34 = .ok (.iload 5, 2) := by decide +kernel
theorem dX8_shown_36 : decode cX8_shown 36 = .ok (.imul, 1) := by decide +kernel
theorem dX8_shown_37 : decode cX8_shown 37 = .ok (.iadd, 1) := by decide +kernel
theorem dX8_shown_38 : decode cX8_shown 38 = .ok (.iconst 5, 1) := by decide +kernel
theorem dX8_shown_39 : decode cX8_shown 39 = .ok (.iadd, 1) := by decide +kernel
theorem dX8_shown_40 : decode cX8_shown 40 = .ok (.iaload, 1) := by decide +kernel
theorem dX8_shown_41 : decode cX8_shown 41 = .ok (.goto 5, 3) := by decide +kernel
theorem dX8_shown_44 : decode cX8_shown 44 = .ok (.iload 4, 2) := by decide +kernel
theorem dX8_shown_46 : decode cX8_shown 46 = .ok (.istore 4, 2) := by decide +kernel
theorem dX8_shown_48 : decode cX8_shown 48 = .ok (.iinc 5 1, 3) := by decide +kernel
theorem dX8_shown_51 : decode cX8_shown 51 = .ok (.goto (-43), 3) := by decide +kernel
theorem dX8_shown_54 : decode cX8_shown 54 = .ok (.aload_n 0, 1) := by decide +kernel
theorem dX8_shown_55 : decode cX8_shown 55 = .ok (.iload_n 3, 1) := by decide +kernel
theorem dX8_shown_56 : decode cX8_shown 56 = .ok (.invokestatic 75, 3) := by decide +kernel
theorem dX8_shown_59 : decode cX8_shown 59 = .ok (.ifCond .eq 16, 3) := by decide +kernel
theorem dX8_shown_62 : decode cX8_shown 62 = .ok (.iload 4, 2) := by decide +kernel
theorem dX8_shown_64 : decode cX8_shown 64 = .ok (.aload_n 0, 1) := by decide +kernel
theorem dX8_shown_65 : decode cX8_shown 65 = .ok (.bipush 7, 2) := by decide +kernel
theorem dX8_shown_67 : decode cX8_shown 67 = .ok (.iaload, 1) := by decide +kernel
theorem dX8_shown_68 : decode cX8_shown 68 = .ok (.imul, 1) := by decide +kernel
theorem dX8_shown_69 : decode cX8_shown 69 = .ok (.bipush 100, 2) := by decide +kernel
theorem dX8_shown_71 : decode cX8_shown 71 = .ok (.idiv, 1) := by decide +kernel
theorem dX8_shown_72 : decode cX8_shown 72 = .ok (.goto 5, 3) := by decide +kernel
theorem dX8_shown_75 : decode cX8_shown 75 = .ok (.iload 4, 2) := by decide +kernel
theorem dX8_shown_77 : decode cX8_shown 77 = .ok (.ireturn, 1) := by decide +kernel
theorem dX8_isRow_0 : decode cX8_isRow 0 = .ok (.iload_n 1, 1) := by decide +kernel
theorem dX8_isRow_1 : decode cX8_isRow 1 = .ok (.iconst 0, 1) := by decide +kernel
theorem dX8_isRow_2 : decode cX8_isRow 2 = .ok (.aload_n 0, 1) := by decide +kernel
theorem dX8_isRow_3 : decode cX8_isRow 3 = .ok (.getfield 7, 3) := by decide +kernel
theorem dX8_isRow_6 : decode cX8_isRow 6 = .ok (.iconst 0, 1) := by decide +kernel
theorem dX8_isRow_7 : decode cX8_isRow 7 = .ok (.iaload, 1) := by decide +kernel
theorem dX8_isRow_8 : decode cX8_isRow 8 = .ok (.iconst 1, 1) := by decide +kernel
theorem dX8_isRow_9 : decode cX8_isRow 9 = .ok (.isub, 1) := by decide +kernel
theorem dX8_isRow_10 : decode cX8_isRow 10 = .ok (.invokestatic 36, 3) := by decide +kernel
theorem dX8_isRow_13 : decode cX8_isRow 13 = .ok (.ireturn, 1) := by decide +kernel
theorem dX8_isColumn_0 : decode cX8_isColumn 0 = .ok (.iload_n 1, 1) := by decide +kernel
theorem dX8_isColumn_1 : decode cX8_isColumn 1 = .ok (.iconst 0, 1) := by decide +kernel
theorem dX8_isColumn_2 : decode cX8_isColumn 2 = .ok (.aload_n 0, 1) := by decide +kernel
theorem dX8_isColumn_3 : decode cX8_isColumn 3 = .ok (.getfield 7, 3) := by decide +kernel
theorem dX8_isColumn_6 : decode cX8_isColumn 6 = .ok (.iconst 1, 1) := by decide +kernel
theorem dX8_isColumn_7 : decode cX8_isColumn 7 = .ok (.iaload, 1) := by decide +kernel
theorem dX8_isColumn_8 : decode cX8_isColumn 8 = .ok (.iconst 1, 1) := by decide +kernel
theorem dX8_isColumn_9 : decode cX8_isColumn 9 = .ok (.isub, 1) := by decide +kernel
theorem dX8_isColumn_10 : decode cX8_isColumn 10 = .ok (.invokestatic 36, 3) := by decide +kernel
theorem dX8_isColumn_13 : decode cX8_isColumn 13 = .ok (.ireturn, 1) := by decide +kernel
theorem dX8_shows_0 : decode cX8_shows 0 = .ok (.aload_n 0, 1) := by decide +kernel
theorem dX8_shows_1 : decode cX8_shows 1 = .ok (.iload_n 1, 1) := by decide +kernel
theorem dX8_shows_2 : decode cX8_shows 2 = .ok (.invokevirtual 79, 3) := by decide +kernel
theorem dX8_shows_5 : decode cX8_shows 5 = .ok (.ifCond .eq 35, 3) := by decide +kernel
theorem dX8_shows_8 : decode cX8_shows 8 = .ok (.aload_n 0, 1) := by decide +kernel
theorem dX8_shows_9 : decode cX8_shows 9 = .ok (.iload_n 2, 1) := by decide +kernel
theorem dX8_shows_10 : decode cX8_shows 10 = .ok (.invokevirtual 82, 3) := by decide +kernel
theorem dX8_shows_13 : decode cX8_shows 13 = .ok (.ifCond .eq 27, 3) := by decide +kernel
theorem dX8_shows_16 : decode cX8_shows 16 = .ok (.iload_n 3, 1) := by decide +kernel
theorem dX8_shows_17 : decode cX8_shows 17 = .ok (.iconst 0, 1) := by decide +kernel
theorem dX8_shows_18 : decode cX8_shows 18 = .ok (.sipush 20000, 3) := by decide +kernel
theorem dX8_shows_21 : decode cX8_shows 21 = .ok (.invokestatic 36, 3) := by decide +kernel
theorem dX8_shows_24 : decode cX8_shows 24 = .ok (.ifCond .eq 16, 3) := by decide +kernel
theorem dX8_shows_27 : decode cX8_shows 27 = .ok (.aload_n 0, 1) := by decide +kernel
theorem dX8_shows_28 : decode cX8_shows 28 = .ok (.getfield 7, 3) := by decide +kernel
theorem dX8_shows_31 : decode cX8_shows 31 = .ok (.iload_n 1, 1) := by decide +kernel
theorem dX8_shows_32 : decode cX8_shows 32 = .ok (.iload_n 2, 1) := by decide +kernel
theorem dX8_shows_33 : decode cX8_shows 33 = .ok (.iload_n 3, 1) := by decide +kernel
theorem dX8_shows_34 : decode cX8_shows 34 = .ok (.invokestatic 85, 3) := by decide +kernel
theorem dX8_shows_37 : decode cX8_shows 37 = .ok (.goto 5, 3) := by decide +kernel
theorem dX8_shows_40 : decode cX8_shows 40 = .ok (.ldc 44, 2) := by decide +kernel
theorem dX8_shows_42 : decode cX8_shows 42 = .ok (.ireturn, 1) := by decide +kernel
theorem dX8_drops_0 : decode cX8_drops 0 = .ok (.bipush 37, 2) := by decide +kernel
theorem dX8_drops_2 : decode cX8_drops 2 = .ok (.sipush 162, 3) := by decide +kernel
theorem dX8_drops_5 : decode cX8_drops 5 = .ok (.iload_n 1, 1) := by decide +kernel
theorem dX8_drops_6 : decode cX8_drops 6 = .ok (.imul, 1) := by decide +kernel
theorem dX8_drops_7 : decode cX8_drops 7 = .ok (.iadd, 1) := by decide +kernel
theorem dX8_drops_8 : decode cX8_drops 8 = .ok (.istore_n 2, 1) := by decide +kernel
theorem dX8_drops_9 : decode cX8_drops 9 = .ok (.iload_n 2, 1) := by decide +kernel
theorem dX8_drops_10 : decode cX8_drops 10 = .ok (.bipush 37, 2) := by decide +kernel
theorem dX8_drops_12 : decode cX8_drops 12 = .ok (.sipush 162, 3) := by decide +kernel
theorem dX8_drops_15 : decode cX8_drops 15 = .ok (.aload_n 0, 1) := by decide +kernel
theorem dX8_drops_16 : decode cX8_drops 16 = .ok (.bipush 36, 2) := by decide +kernel
theorem dX8_drops_18 : decode cX8_drops 18 = .ok (.iaload, 1) := by decide +kernel
theorem dX8_drops_19 : decode cX8_drops 19 = .ok (.iconst 1, 1) := by decide +kernel
theorem dX8_drops_20 : decode cX8_drops 20 = .ok (.isub, 1) := by decide +kernel
theorem dX8_drops_21 : decode cX8_drops 21 = .ok (.imul, 1) := by decide +kernel
theorem dX8_drops_22 : decode cX8_drops 22 = .ok (.iadd, 1) := by decide +kernel
theorem dX8_drops_23 : decode cX8_drops 23 = .ok (.if_icmp .ge 19, 3) := by decide +kernel
theorem dX8_drops_26 : decode cX8_drops 26 = .ok (.aload_n 0, 1) := by decide +kernel
theorem dX8_drops_27 : decode cX8_drops 27 = .ok (.iload_n 2, 1) := by decide +kernel
theorem dX8_drops_28 : decode cX8_drops 28 = .ok (.aload_n 0, 1) := by decide +kernel
theorem dX8_drops_29 : decode cX8_drops 29 = .ok (.iload_n 2, 1) := by decide +kernel
theorem dX8_drops_30 : decode cX8_drops 30 = .ok (.sipush 162, 3) := by decide +kernel
theorem dX8_drops_33 : decode cX8_drops 33 = .ok (.iadd, 1) := by decide +kernel
theorem dX8_drops_34 : decode cX8_drops 34 = .ok (.iaload, 1) := by decide +kernel
theorem dX8_drops_35 : decode cX8_drops 35 = .ok (.iastore, 1) := by decide +kernel
theorem dX8_drops_36 : decode cX8_drops 36 = .ok (.iinc 2 1, 3) := by decide +kernel
theorem dX8_drops_39 : decode cX8_drops 39 = .ok (.goto (-30), 3) := by decide +kernel
theorem dX8_drops_42 : decode cX8_drops 42 = .ok (.aload_n 0, 1) := by decide +kernel
theorem dX8_drops_43 : decode cX8_drops 43 = .ok (.bipush 36, 2) := by decide +kernel
theorem dX8_drops_45 : decode cX8_drops 45 = .ok (.dup2, 1) := by decide +kernel
theorem dX8_drops_46 : decode cX8_drops 46 = .ok (.iaload, 1) := by decide +kernel
theorem dX8_drops_47 : decode cX8_drops 47 = .ok (.iconst 1, 1) := by decide +kernel
theorem dX8_drops_48 : decode cX8_drops 48 = .ok (.isub, 1) := by decide +kernel
theorem dX8_drops_49 : decode cX8_drops 49 = .ok (.iastore, 1) := by decide +kernel
theorem dX8_drops_50 : decode cX8_drops 50 = .ok (.return_, 1) := by decide +kernel
theorem dX8_takes_0 : decode cX8_takes 0 = .ok (.aload_n 0, 1) := by decide +kernel
theorem dX8_takes_1 : decode cX8_takes 1 = .ok (.bipush 36, 2) := by decide +kernel
theorem dX8_takes_3 : decode cX8_takes 3 = .ok (.iaload, 1) := by decide +kernel
theorem dX8_takes_4 : decode cX8_takes 4 = .ok (.iconst 5, 1) := by decide +kernel
theorem dX8_takes_5 : decode cX8_takes 5 = .ok (.if_icmp .ne 8, 3) := by decide +kernel
theorem dX8_takes_8 : decode cX8_takes 8 = .ok (.aload_n 0, 1) := by decide +kernel
theorem dX8_takes_9 : decode cX8_takes 9 = .ok (.iconst 0, 1) := by decide +kernel
theorem dX8_takes_10 : decode cX8_takes 10 = .ok (.invokestatic 89, 3) := by decide +kernel
theorem dX8_takes_13 : decode cX8_takes 13 = .ok (.bipush 37, 2) := by decide +kernel
theorem dX8_takes_15 : decode cX8_takes 15 = .ok (.sipush 162, 3) := by decide +kernel
theorem dX8_takes_18 : decode cX8_takes 18 = .ok (.aload_n 0, 1) := by decide +kernel
theorem dX8_takes_19 : decode cX8_takes 19 = .ok (.bipush 36, 2) := by decide +kernel
theorem dX8_takes_21 : decode cX8_takes 21 = .ok (.iaload, 1) := by decide +kernel
theorem dX8_takes_22 : decode cX8_takes 22 = .ok (.imul, 1) := by decide +kernel
theorem dX8_takes_23 : decode cX8_takes 23 = .ok (.iadd, 1) := by decide +kernel
theorem dX8_takes_24 : decode cX8_takes 24 = .ok (.istore_n 1, 1) := by decide +kernel
theorem dX8_takes_25 : decode cX8_takes 25 = .ok (.aload_n 0, 1) := by decide +kernel
theorem dX8_takes_26 : decode cX8_takes 26 = .ok (.iload_n 1, 1) := by decide +kernel
theorem dX8_takes_27 : decode cX8_takes 27 = .ok (.aload_n 0, 1) := by decide +kernel
theorem dX8_takes_28 : decode cX8_takes 28 = .ok (.bipush 33, 2) := by decide +kernel
theorem dX8_takes_30 : decode cX8_takes 30 = .ok (.iaload, 1) := by decide +kernel
theorem dX8_takes_31 : decode cX8_takes 31 = .ok (.iastore, 1) := by decide +kernel
theorem dX8_takes_32 : decode cX8_takes 32 = .ok (.aload_n 0, 1) := by decide +kernel
theorem dX8_takes_33 : decode cX8_takes 33 = .ok (.iload_n 1, 1) := by decide +kernel
theorem dX8_takes_34 : decode cX8_takes 34 = .ok (.iconst 1, 1) := by decide +kernel
theorem dX8_takes_35 : decode cX8_takes 35 = .ok (.iadd, 1) := by decide +kernel
theorem dX8_takes_36 : decode cX8_takes 36 = .ok (.aload_n 0, 1) := by decide +kernel
theorem dX8_takes_37 : decode cX8_takes 37 = .ok (.bipush 34, 2) := by decide +kernel
theorem dX8_takes_39 : decode cX8_takes 39 = .ok (.iaload, 1) := by decide +kernel
theorem dX8_takes_40 : decode cX8_takes 40 = .ok (.iastore, 1) := by decide +kernel
theorem dX8_takes_41 : decode cX8_takes 41 = .ok (.iconst 0, 1) := by decide +kernel
theorem dX8_takes_42 : decode cX8_takes 42 = .ok (.istore_n 2, 1) := by decide +kernel
theorem dX8_takes_43 : decode cX8_takes 43 = .ok (.iload_n 2, 1) := by decide +kernel
theorem dX8_takes_44 : decode cX8_takes 44 = .ok (.aload_n 0, 1) := by decide +kernel
theorem dX8_takes_45 : decode cX8_takes 45 = .ok (.iconst 0, 1) := by decide +kernel
theorem dX8_takes_46 : decode cX8_takes 46 = .ok (.iaload, 1) := by decide +kernel
theorem dX8_takes_47 : decode cX8_takes 47 = .ok (.if_icmp .ge 52, 3) := by decide +kernel
theorem dX8_takes_50 : decode cX8_takes 50 = .ok (.iconst 0, 1) := by decide +kernel
theorem dX8_takes_51 : decode cX8_takes 51 = .ok (.istore_n 3, 1) := by decide +kernel
theorem dX8_takes_52 : decode cX8_takes 52 = .ok (.iload_n 3, 1) := by decide +kernel
theorem dX8_takes_53 : decode cX8_takes 53 = .ok (.aload_n 0, 1) := by decide +kernel
theorem dX8_takes_54 : decode cX8_takes 54 = .ok (.iconst 1, 1) := by decide +kernel
theorem dX8_takes_55 : decode cX8_takes 55 = .ok (.iaload, 1) := by decide +kernel
theorem dX8_takes_56 : decode cX8_takes 56 = .ok (.if_icmp .ge 37, 3) := by decide +kernel
theorem dX8_takes_59 : decode cX8_takes 59 = .ok (.aload_n 0, 1) := by decide +kernel
theorem dX8_takes_60 : decode cX8_takes 60 = .ok (.iload_n 1, 1) := by decide +kernel
theorem dX8_takes_61 : decode cX8_takes 61 = .ok (.iconst 2, 1) := by decide +kernel
theorem dX8_takes_62 : decode cX8_takes 62 = .ok (.iadd, 1) := by decide +kernel
theorem dX8_takes_63 : decode cX8_takes 63 = .ok (.bipush 16, 2) := by decide +kernel
theorem dX8_takes_65 : decode cX8_takes 65 = .ok (.iload_n 2, 1) := by decide +kernel
theorem dX8_takes_66 : decode cX8_takes 66 = .ok (.imul, 1) := by decide +kernel
theorem dX8_takes_67 : decode cX8_takes 67 = .ok (.iadd, 1) := by decide +kernel
theorem dX8_takes_68 : decode cX8_takes 68 = .ok (.iload_n 3, 1) := by decide +kernel
theorem dX8_takes_69 : decode cX8_takes 69 = .ok (.iadd, 1) := by decide +kernel
theorem dX8_takes_70 : decode cX8_takes 70 = .ok (.aload_n 0, 1) := by decide +kernel
theorem dX8_takes_71 : decode cX8_takes 71 = .ok (.iload_n 2, 1) := by decide +kernel
theorem dX8_takes_72 : decode cX8_takes 72 = .ok (.iload_n 3, 1) := by decide +kernel
theorem dX8_takes_73 : decode cX8_takes 73 = .ok (.aload_n 0, 1) := by decide +kernel
theorem dX8_takes_74 : decode cX8_takes 74 = .ok (.bipush 33, 2) := by decide +kernel
theorem dX8_takes_76 : decode cX8_takes 76 = .ok (.iaload, 1) := by decide +kernel
theorem dX8_takes_77 : decode cX8_takes 77 = .ok (.iload_n 2, 1) := by decide +kernel
theorem dX8_takes_78 : decode cX8_takes 78 = .ok (.aload_n 0, 1) := by decide +kernel
theorem dX8_takes_79 : decode cX8_takes 79 = .ok (.iconst 2, 1) := by decide +kernel
theorem dX8_takes_80 : decode cX8_takes 80 = .ok (.iaload, 1) := by decide +kernel
theorem dX8_takes_81 : decode cX8_takes 81 = .ok (.imul, 1) := by decide +kernel
theorem dX8_takes_82 : decode cX8_takes 82 = .ok (.iadd, 1) := by decide +kernel
theorem dX8_takes_83 : decode cX8_takes 83 = .ok (.invokestatic 85, 3) := by decide +kernel
theorem dX8_takes_86 : decode cX8_takes 86 = .ok (.iastore, 1) := by decide +kernel
theorem dX8_takes_87 : decode cX8_takes 87 = .ok (.iinc 3 1, 3) := by decide +kernel
theorem dX8_takes_90 : decode cX8_takes 90 = .ok (.goto (-38), 3) := by decide +kernel
theorem dX8_takes_93 : decode cX8_takes 93 = .ok (.iinc 2 1, 3) := by decide +kernel
theorem dX8_takes_96 : decode cX8_takes 96 = .ok (.goto (-53), 3) := by decide +kernel
theorem dX8_takes_99 : decode cX8_takes 99 = .ok (.aload_n 0, 1) := by decide +kernel
theorem dX8_takes_100 : decode cX8_takes 100 = .ok (.bipush 36, 2) := by decide +kernel
theorem dX8_takes_102 : decode cX8_takes 102 = .ok (.dup2, 1) := by decide +kernel
theorem dX8_takes_103 : decode cX8_takes 103 = .ok (.iaload, 1) := by decide +kernel
theorem dX8_takes_104 : decode cX8_takes 104 = .ok (.iconst 1, 1) := by decide +kernel
theorem dX8_takes_105 : decode cX8_takes 105 = .ok (.iadd, 1) := by decide +kernel
theorem dX8_takes_106 : decode cX8_takes 106 = .ok (.iastore, 1) := by decide +kernel
theorem dX8_takes_107 : decode cX8_takes 107 = .ok (.aload_n 0, 1) := by decide +kernel
theorem dX8_takes_108 : decode cX8_takes 108 = .ok (.bipush 35, 2) := by decide +kernel
theorem dX8_takes_110 : decode cX8_takes 110 = .ok (.dup2, 1) := by decide +kernel
theorem dX8_takes_111 : decode cX8_takes 111 = .ok (.iaload, 1) := by decide +kernel
theorem dX8_takes_112 : decode cX8_takes 112 = .ok (.iconst 1, 1) := by decide +kernel
theorem dX8_takes_113 : decode cX8_takes 113 = .ok (.iadd, 1) := by decide +kernel
theorem dX8_takes_114 : decode cX8_takes 114 = .ok (.iastore, 1) := by decide +kernel
theorem dX8_takes_115 : decode cX8_takes 115 = .ok (.return_, 1) := by decide +kernel
theorem dX8_shoot_0 : decode cX8_shoot 0 = .ok (.aload_n 0, 1) := by decide +kernel
theorem dX8_shoot_1 : decode cX8_shoot 1 = .ok (.invokevirtual 46, 3) := by decide +kernel
theorem dX8_shoot_4 : decode cX8_shoot 4 = .ok (.aload_n 0, 1) := by decide +kernel
theorem dX8_shoot_5 : decode cX8_shoot 5 = .ok (.getfield 7, 3) := by decide +kernel
theorem dX8_shoot_8 : decode cX8_shoot 8 = .ok (.invokestatic 93, 3) := by decide +kernel
theorem dX8_shoot_11 : decode cX8_shoot 11 = .ok (.aload_n 0, 1) := by decide +kernel
theorem dX8_shoot_12 : decode cX8_shoot 12 = .ok (.getfield 7, 3) := by decide +kernel
theorem dX8_shoot_15 : decode cX8_shoot 15 = .ok (.bipush 36, 2) := by decide +kernel
theorem dX8_shoot_17 : decode cX8_shoot 17 = .ok (.iaload, 1) := by decide +kernel
theorem dX8_shoot_18 : decode cX8_shoot 18 = .ok (.ireturn, 1) := by decide +kernel
theorem dX8_isFrame_0 : decode cX8_isFrame 0 = .ok (.iload_n 1, 1) := by decide +kernel
theorem dX8_isFrame_1 : decode cX8_isFrame 1 = .ok (.iconst 0, 1) := by decide +kernel
theorem dX8_isFrame_2 : decode cX8_isFrame 2 = .ok (.aload_n 0, 1) := by decide +kernel
theorem dX8_isFrame_3 : decode cX8_isFrame 3 = .ok (.getfield 7, 3) := by decide +kernel
theorem dX8_isFrame_6 : decode cX8_isFrame 6 = .ok (.bipush 36, 2) := by decide +kernel
theorem dX8_isFrame_8 : decode cX8_isFrame 8 = .ok (.iaload, 1) := by decide +kernel
theorem dX8_isFrame_9 : decode cX8_isFrame 9 = .ok (.iconst 1, 1) := by decide +kernel
theorem dX8_isFrame_10 : decode cX8_isFrame 10 = .ok (.isub, 1) := by decide +kernel
theorem dX8_isFrame_11 : decode cX8_isFrame 11 = .ok (.invokestatic 36, 3) := by decide +kernel
theorem dX8_isFrame_14 : decode cX8_isFrame 14 = .ok (.ireturn, 1) := by decide +kernel
theorem dX8_forget_0 : decode cX8_forget 0 = .ok (.aload_n 0, 1) := by decide +kernel
theorem dX8_forget_1 : decode cX8_forget 1 = .ok (.iload_n 1, 1) := by decide +kernel
theorem dX8_forget_2 : decode cX8_forget 2 = .ok (.invokevirtual 97, 3) := by decide +kernel
theorem dX8_forget_5 : decode cX8_forget 5 = .ok (.ifCond .ne 6, 3) := by decide +kernel
theorem dX8_forget_8 : decode cX8_forget 8 = .ok (.ldc 44, 2) := by decide +kernel
theorem dX8_forget_10 : decode cX8_forget 10 = .ok (.ireturn, 1) := by decide +kernel
theorem dX8_forget_11 : decode cX8_forget 11 = .ok (.aload_n 0, 1) := by decide +kernel
theorem dX8_forget_12 : decode cX8_forget 12 = .ok (.invokevirtual 46, 3) := by decide +kernel
theorem dX8_forget_15 : decode cX8_forget 15 = .ok (.aload_n 0, 1) := by decide +kernel
theorem dX8_forget_16 : decode cX8_forget 16 = .ok (.getfield 7, 3) := by decide +kernel
theorem dX8_forget_19 : decode cX8_forget 19 = .ok (.iload_n 1, 1) := by decide +kernel
theorem dX8_forget_20 : decode cX8_forget 20 = .ok (.invokestatic 89, 3) := by decide +kernel
theorem dX8_forget_23 : decode cX8_forget 23 = .ok (.aload_n 0, 1) := by decide +kernel
theorem dX8_forget_24 : decode cX8_forget 24 = .ok (.getfield 7, 3) := by decide +kernel
theorem dX8_forget_27 : decode cX8_forget 27 = .ok (.bipush 36, 2) := by decide +kernel
theorem dX8_forget_29 : decode cX8_forget 29 = .ok (.iaload, 1) := by decide +kernel
theorem dX8_forget_30 : decode cX8_forget 30 = .ok (.ireturn, 1) := by decide +kernel
theorem dX8_frameValue_0 : decode cX8_frameValue 0 = .ok (.aload_n 0, 1) := by decide +kernel
theorem dX8_frameValue_1 : decode cX8_frameValue 1 = .ok (.getfield 7, 3) := by decide +kernel
theorem dX8_frameValue_4 : decode cX8_frameValue 4 = .ok (.bipush 37, 2) := by decide +kernel
theorem dX8_frameValue_6 : decode cX8_frameValue 6 = .ok (.sipush 162, 3) := by decide +kernel
theorem dX8_frameValue_9 : decode cX8_frameValue 9 = .ok (.iload_n 1, 1) := by decide +kernel
theorem dX8_frameValue_10 : decode cX8_frameValue 10 = .ok (.imul, 1) := by decide +kernel
theorem dX8_frameValue_11 : decode cX8_frameValue 11 = .ok (.iadd, 1) := by decide +kernel
theorem dX8_frameValue_12 : decode cX8_frameValue 12 = .ok (.iload_n 2, 1) := by decide +kernel
theorem dX8_frameValue_13 : decode cX8_frameValue 13 = .ok (.iadd, 1) := by decide +kernel
theorem dX8_frameValue_14 : decode cX8_frameValue 14 = .ok (.iaload, 1) := by decide +kernel
theorem dX8_frameValue_15 : decode cX8_frameValue 15 = .ok (.ireturn, 1) := by decide +kernel
theorem dX8_isSeen_0 : decode cX8_isSeen 0 = .ok (.aload_n 0, 1) := by decide +kernel
theorem dX8_isSeen_1 : decode cX8_isSeen 1 = .ok (.iload_n 1, 1) := by decide +kernel
theorem dX8_isSeen_2 : decode cX8_isSeen 2 = .ok (.iconst 1, 1) := by decide +kernel
theorem dX8_isSeen_3 : decode cX8_isSeen 3 = .ok (.invokevirtual 100, 3) := by decide +kernel
theorem dX8_isSeen_6 : decode cX8_isSeen 6 = .ok (.iload_n 2, 1) := by decide +kernel
theorem dX8_isSeen_7 : decode cX8_isSeen 7 = .ok (.invokestatic 104, 3) := by decide +kernel
theorem dX8_isSeen_10 : decode cX8_isSeen 10 = .ok (.ifCond .ne 7, 3) := by decide +kernel
theorem dX8_isSeen_13 : decode cX8_isSeen 13 = .ok (.iconst 1, 1) := by decide +kernel
theorem dX8_isSeen_14 : decode cX8_isSeen 14 = .ok (.goto 4, 3) := by decide +kernel
theorem dX8_isSeen_17 : decode cX8_isSeen 17 = .ok (.iconst 0, 1) := by decide +kernel
theorem dX8_isSeen_18 : decode cX8_isSeen 18 = .ok (.ireturn, 1) := by decide +kernel
theorem dX8_pixelOf_0 : decode cX8_pixelOf 0 = .ok (.aload_n 0, 1) := by decide +kernel
theorem dX8_pixelOf_1 : decode cX8_pixelOf 1 = .ok (.iload_n 1, 1) := by decide +kernel
theorem dX8_pixelOf_2 : decode cX8_pixelOf 2 = .ok (.iconst 2, 1) := by decide +kernel
theorem dX8_pixelOf_3 : decode cX8_pixelOf 3 = .ok (.bipush 16, 2) := by decide +kernel
theorem dX8_pixelOf_5 : decode cX8_pixelOf 5 = .ok (.iload_n 2, 1) := by decide +kernel
theorem dX8_pixelOf_6 : decode cX8_pixelOf 6 = .ok (.imul, 1) := by decide +kernel
theorem dX8_pixelOf_7 : decode cX8_pixelOf 7 = .ok (.iadd, 1) := by decide +kernel
theorem dX8_pixelOf_8 : decode cX8_pixelOf 8 = .ok (.iload_n 3, 1) := by decide +kernel
theorem dX8_pixelOf_9 : decode cX8_pixelOf 9 = .ok (.iadd, 1) := by decide +kernel
theorem dX8_pixelOf_10 : decode cX8_pixelOf 10 = .ok (.invokevirtual 100, 3) := by decide +kernel
theorem dX8_pixelOf_13 : decode cX8_pixelOf 13 = .ok (.ireturn, 1) := by decide +kernel
theorem dX8_isEdge_0 : decode cX8_isEdge 0 = .ok (.aload_n 0, 1) := by decide +kernel
theorem dX8_isEdge_1 : decode cX8_isEdge 1 = .ok (.iload_n 1, 1) := by decide +kernel
theorem dX8_isEdge_2 : decode cX8_isEdge 2 = .ok (.iload_n 2, 1) := by decide +kernel
theorem dX8_isEdge_3 : decode cX8_isEdge 3 = .ok (.invokevirtual 107, 3) := by decide +kernel
theorem dX8_isEdge_6 : decode cX8_isEdge 6 = .ok (.ifCond .eq 19, 3) := by decide +kernel
theorem dX8_isEdge_9 : decode cX8_isEdge 9 = .ok (.iload_n 3, 1) := by decide +kernel
theorem dX8_isEdge_10 : decode cX8_isEdge 10 = .ok (.iconst 1, 1) := by decide +kernel
theorem dX8_isEdge_11 : decode cX8_isEdge 11 = .ok (.aload_n 0, 1) := by decide +kernel
theorem dX8_isEdge_12 : decode cX8_isEdge 12 = .ok (.getfield 7, 3) := by decide +kernel
theorem dX8_isEdge_15 : decode cX8_isEdge 15 = .ok (.iconst 1, 1) := by decide +kernel
theorem dX8_isEdge_16 : decode cX8_isEdge 16 = .ok (.iaload, 1) := by decide +kernel
theorem dX8_isEdge_17 : decode cX8_isEdge 17 = .ok (.iconst 1, 1) := by decide +kernel
theorem dX8_isEdge_18 : decode cX8_isEdge 18 = .ok (.isub, 1) := by decide +kernel
theorem dX8_isEdge_19 : decode cX8_isEdge 19 = .ok (.invokestatic 36, 3) := by decide +kernel
theorem dX8_isEdge_22 : decode cX8_isEdge 22 = .ok (.ifCond .ne 5, 3) := by decide +kernel
theorem dX8_isEdge_25 : decode cX8_isEdge 25 = .ok (.iconst 0, 1) := by decide +kernel
theorem dX8_isEdge_26 : decode cX8_isEdge 26 = .ok (.ireturn, 1) := by decide +kernel
theorem dX8_isEdge_27 : decode cX8_isEdge 27 = .ok (.aload_n 0, 1) := by decide +kernel
theorem dX8_isEdge_28 : decode cX8_isEdge 28 = .ok (.iload_n 1, 1) := by decide +kernel
theorem dX8_isEdge_29 : decode cX8_isEdge 29 = .ok (.iload_n 2, 1) := by decide +kernel
theorem dX8_isEdge_30 : decode cX8_isEdge 30 = .ok (.iload_n 3, 1) := by decide +kernel
theorem dX8_isEdge_31 : decode cX8_isEdge 31 = .ok (.invokevirtual 110, 3) := by decide +kernel
theorem dX8_isEdge_34 : decode cX8_isEdge 34 = .ok (.aload_n 0, 1) := by decide +kernel
theorem dX8_isEdge_35 : decode cX8_isEdge 35 = .ok (.iload_n 1, 1) := by decide +kernel
theorem dX8_isEdge_36 : decode cX8_isEdge 36 = .ok (.iload_n 2, 1) := by decide +kernel
theorem dX8_isEdge_37 : decode cX8_isEdge 37 = .ok (.iload_n 3, 1) := by decide +kernel
theorem dX8_isEdge_38 : decode cX8_isEdge 38 = .ok (.iconst 1, 1) := by decide +kernel
theorem dX8_isEdge_39 : decode cX8_isEdge 39 = .ok (.isub, 1) := by decide +kernel
theorem dX8_isEdge_40 : decode cX8_isEdge 40 = .ok (.invokevirtual 110, 3) := by decide +kernel
theorem dX8_isEdge_43 : decode cX8_isEdge 43 = .ok (.isub, 1) := by decide +kernel
theorem dX8_isEdge_44 : decode cX8_isEdge 44 = .ok (.istore 4, 2) := by decide +kernel
theorem dX8_isEdge_46 : decode cX8_isEdge 46 = .ok (.iload 4, 2) := by decide +kernel
theorem dX8_isEdge_48 : decode cX8_isEdge 48 = .ok (.aload_n 0, 1) := by decide +kernel
theorem dX8_isEdge_49 : decode cX8_isEdge 49 = .ok (.getfield 7, 3) := by decide +kernel
theorem dX8_isEdge_52 : decode cX8_isEdge 52 = .ok (.iconst 3, 1) := by decide +kernel
theorem dX8_isEdge_53 : decode cX8_isEdge 53 = .ok (.iaload, 1) := by decide +kernel
theorem dX8_isEdge_54 : decode cX8_isEdge 54 = .ok (.if_icmp .ge 15, 3) := by decide +kernel
theorem dX8_isEdge_57 : decode cX8_isEdge 57 = .ok (.iload 4, 2) := by decide +kernel
theorem dX8_isEdge_59 : decode cX8_isEdge 59 = .ok (.ineg, 1) := by decide +kernel
theorem dX8_isEdge_60 : decode cX8_isEdge 60 = .ok (.aload_n 0, 1) := by decide +kernel
theorem dX8_isEdge_61 : decode cX8_isEdge 61 = .ok (.getfield 7, 3) := by decide +kernel
theorem dX8_isEdge_64 : decode cX8_isEdge 64 = .ok (.iconst 3, 1) := by decide +kernel
theorem dX8_isEdge_65 : decode cX8_isEdge 65 = .ok (.iaload, 1) := by decide +kernel
theorem dX8_isEdge_66 : decode cX8_isEdge 66 = .ok (.if_icmp .lt 7, 3) := by decide +kernel
theorem dX8_isEdge_69 : decode cX8_isEdge 69 = .ok (.iconst 1, 1) := by decide +kernel
theorem dX8_isEdge_70 : decode cX8_isEdge 70 = .ok (.goto 4, 3) := by decide +kernel
theorem dX8_isEdge_73 : decode cX8_isEdge 73 = .ok (.iconst 0, 1) := by decide +kernel
theorem dX8_isEdge_74 : decode cX8_isEdge 74 = .ok (.ireturn, 1) := by decide +kernel
theorem dX8_edgesIn_0 : decode cX8_edgesIn 0 = .ok (.iconst 0, 1) := by decide +kernel
theorem dX8_edgesIn_1 : decode cX8_edgesIn 1 = .ok (.istore_n 3, 1) := by decide +kernel
theorem dX8_edgesIn_2 : decode cX8_edgesIn 2 = .ok (.iconst 1, 1) := by decide +kernel
theorem dX8_edgesIn_3 : decode cX8_edgesIn 3 = .ok (.istore 4, 2) := by decide +kernel
theorem dX8_edgesIn_5 : decode cX8_edgesIn 5 = .ok (.iload 4, 2) := by decide +kernel
theorem dX8_edgesIn_7 : decode cX8_edgesIn 7 = .ok (.aload_n 0, 1) := by decide +kernel
theorem dX8_edgesIn_8 : decode cX8_edgesIn 8 = .ok (.getfield 7, 3) := by decide +kernel
theorem dX8_edgesIn_11 : decode cX8_edgesIn 11 = .ok (.iconst 1, 1) := by decide +kernel
theorem dX8_edgesIn_12 : decode cX8_edgesIn 12 = .ok (.iaload, 1) := by decide +kernel
theorem dX8_edgesIn_13 : decode cX8_edgesIn 13 = .ok (.if_icmp .ge 31, 3) := by decide +kernel
theorem dX8_edgesIn_16 : decode cX8_edgesIn 16 = .ok (.iload_n 3, 1) := by decide +kernel
theorem dX8_edgesIn_17 : decode cX8_edgesIn 17 = .ok (.aload_n 0, 1) := by decide +kernel
theorem dX8_edgesIn_18 : decode cX8_edgesIn 18 = .ok (.iload_n 1, 1) := by decide +kernel
theorem dX8_edgesIn_19 : decode cX8_edgesIn 19 = .ok (.iload_n 2, 1) := by decide +kernel
theorem dX8_edgesIn_20 : decode cX8_edgesIn 20 = .ok (.iload 4, 2) := by decide +kernel
theorem dX8_edgesIn_22 : decode cX8_edgesIn 22 = .ok (.invokevirtual 114, 3) := by decide +kernel
theorem dX8_edgesIn_25 : decode cX8_edgesIn 25 = .ok (.ifCond .eq 10, 3) := by decide +kernel
theorem dX8_edgesIn_28 : decode cX8_edgesIn 28 = .ok (.iconst 1, 1) := by decide +kernel
theorem dX8_edgesIn_29 : decode cX8_edgesIn 29 = .ok (.iload 4, 2) := by decide +kernel
theorem dX8_edgesIn_31 : decode cX8_edgesIn 31 = .ok (.ishl, 1) := by decide +kernel
theorem dX8_edgesIn_32 : decode cX8_edgesIn 32 = .ok (.goto 4, 3) := by decide +kernel
theorem dX8_edgesIn_35 : decode cX8_edgesIn 35 = .ok (.iconst 0, 1) := by decide +kernel
theorem dX8_edgesIn_36 : decode cX8_edgesIn 36 = .ok (.ior, 1) := by decide +kernel
theorem dX8_edgesIn_37 : decode cX8_edgesIn 37 = .ok (.istore_n 3, 1) := by decide +kernel
theorem dX8_edgesIn_38 : decode cX8_edgesIn 38 = .ok (.iinc 4 1, 3) := by decide +kernel
theorem dX8_edgesIn_41 : decode cX8_edgesIn 41 = .ok (.goto (-36), 3) := by decide +kernel
theorem dX8_edgesIn_44 : decode cX8_edgesIn 44 = .ok (.iload_n 3, 1) := by decide +kernel
theorem dX8_edgesIn_45 : decode cX8_edgesIn 45 = .ok (.ireturn, 1) := by decide +kernel
theorem dX8_frameOf_0 : decode cX8_frameOf 0 = .ok (.aload_n 0, 1) := by decide +kernel
theorem dX8_frameOf_1 : decode cX8_frameOf 1 = .ok (.iload_n 1, 1) := by decide +kernel
theorem dX8_frameOf_2 : decode cX8_frameOf 2 = .ok (.invokevirtual 97, 3) := by decide +kernel
theorem dX8_frameOf_5 : decode cX8_frameOf 5 = .ok (.ifCond .eq 12, 3) := by decide +kernel
theorem dX8_frameOf_8 : decode cX8_frameOf 8 = .ok (.iload_n 2, 1) := by decide +kernel
theorem dX8_frameOf_9 : decode cX8_frameOf 9 = .ok (.iconst 0, 1) := by decide +kernel
theorem dX8_frameOf_10 : decode cX8_frameOf 10 = .ok (.iconst 2, 1) := by decide +kernel
theorem dX8_frameOf_11 : decode cX8_frameOf 11 = .ok (.invokestatic 36, 3) := by decide +kernel
theorem dX8_frameOf_14 : decode cX8_frameOf 14 = .ok (.ifCond .ne 6, 3) := by decide +kernel
theorem dX8_frameOf_17 : decode cX8_frameOf 17 = .ok (.ldc 44, 2) := by decide +kernel
theorem dX8_frameOf_19 : decode cX8_frameOf 19 = .ok (.ireturn, 1) := by decide +kernel
theorem dX8_frameOf_20 : decode cX8_frameOf 20 = .ok (.iload_n 2, 1) := by decide +kernel
theorem dX8_frameOf_21 : decode cX8_frameOf 21 = .ok (.iconst 2, 1) := by decide +kernel
theorem dX8_frameOf_22 : decode cX8_frameOf 22 = .ok (.if_icmp .ge 34, 3) := by decide +kernel
theorem dX8_frameOf_25 : decode cX8_frameOf 25 = .ok (.iload_n 2, 1) := by decide +kernel
theorem dX8_frameOf_26 : decode cX8_frameOf 26 = .ok (.ifCond .ne 12, 3) := by decide +kernel
theorem dX8_frameOf_29 : decode cX8_frameOf 29 = .ok (.aload_n 0, 1) := by decide +kernel
theorem dX8_frameOf_30 : decode cX8_frameOf 30 = .ok (.iload_n 1, 1) := by decide +kernel
theorem dX8_frameOf_31 : decode cX8_frameOf 31 = .ok (.iconst 0, 1) := by decide +kernel
theorem dX8_frameOf_32 : decode cX8_frameOf 32 = .ok (.invokevirtual 100, 3) := by decide +kernel
theorem dX8_frameOf_35 : decode cX8_frameOf 35 = .ok (.goto 20, 3) := by decide +kernel
theorem dX8_frameOf_38 : decode cX8_frameOf 38 = .ok (.aload_n 0, 1) := by decide +kernel
theorem dX8_frameOf_39 : decode cX8_frameOf 39 = .ok (.iload_n 1, 1) := by decide +kernel
theorem dX8_frameOf_40 : decode cX8_frameOf 40 = .ok (.iconst 1, 1) := by decide +kernel
theorem dX8_frameOf_41 : decode cX8_frameOf 41 = .ok (.invokevirtual 100, 3) := by decide +kernel
theorem dX8_frameOf_44 : decode cX8_frameOf 44 = .ok (.iconst 1, 1) := by decide +kernel
theorem dX8_frameOf_45 : decode cX8_frameOf 45 = .ok (.aload_n 0, 1) := by decide +kernel
theorem dX8_frameOf_46 : decode cX8_frameOf 46 = .ok (.getfield 7, 3) := by decide +kernel
theorem dX8_frameOf_49 : decode cX8_frameOf 49 = .ok (.iconst 0, 1) := by decide +kernel
theorem dX8_frameOf_50 : decode cX8_frameOf 50 = .ok (.iaload, 1) := by decide +kernel
theorem dX8_frameOf_51 : decode cX8_frameOf 51 = .ok (.ishl, 1) := by decide +kernel
theorem dX8_frameOf_52 : decode cX8_frameOf 52 = .ok (.iconst 1, 1) := by decide +kernel
theorem dX8_frameOf_53 : decode cX8_frameOf 53 = .ok (.isub, 1) := by decide +kernel
theorem dX8_frameOf_54 : decode cX8_frameOf 54 = .ok (.iand, 1) := by decide +kernel
theorem dX8_frameOf_55 : decode cX8_frameOf 55 = .ok (.ireturn, 1) := by decide +kernel
theorem dX8_frameOf_56 : decode cX8_frameOf 56 = .ok (.iconst 0, 1) := by decide +kernel
theorem dX8_frameOf_57 : decode cX8_frameOf 57 = .ok (.istore_n 3, 1) := by decide +kernel
theorem dX8_frameOf_58 : decode cX8_frameOf 58 = .ok (.iconst 0, 1) := by decide +kernel
theorem dX8_frameOf_59 : decode cX8_frameOf 59 = .ok (.istore 4, 2) := by decide +kernel
theorem dX8_frameOf_61 : decode cX8_frameOf 61 = .ok (.iload 4, 2) := by decide +kernel
theorem dX8_frameOf_63 : decode cX8_frameOf 63 = .ok (.aload_n 0, 1) := by decide +kernel
theorem dX8_frameOf_64 : decode cX8_frameOf 64 = .ok (.getfield 7, 3) := by decide +kernel
theorem dX8_frameOf_67 : decode cX8_frameOf 67 = .ok (.iconst 0, 1) := by decide +kernel
theorem dX8_frameOf_68 : decode cX8_frameOf 68 = .ok (.iaload, 1) := by decide +kernel
theorem dX8_frameOf_69 : decode cX8_frameOf 69 = .ok (.if_icmp .ge 22, 3) := by decide +kernel
theorem dX8_frameOf_72 : decode cX8_frameOf 72 = .ok (.iload_n 3, 1) := by decide +kernel
theorem dX8_frameOf_73 : decode cX8_frameOf 73 = .ok (.aload_n 0, 1) := by decide +kernel
theorem dX8_frameOf_74 : decode cX8_frameOf 74 = .ok (.iload_n 1, 1) := by decide +kernel
theorem dX8_frameOf_75 : decode cX8_frameOf 75 = .ok (.iload 4, 2) := by decide +kernel
theorem dX8_frameOf_77 : decode cX8_frameOf 77 = .ok (.invokevirtual 117, 3) := by decide +kernel
theorem dX8_frameOf_80 : decode cX8_frameOf 80 = .ok (.invokestatic 67, 3) := by decide +kernel
theorem dX8_frameOf_83 : decode cX8_frameOf 83 = .ok (.iadd, 1) := by decide +kernel
theorem dX8_frameOf_84 : decode cX8_frameOf 84 = .ok (.istore_n 3, 1) := by decide +kernel
theorem dX8_frameOf_85 : decode cX8_frameOf 85 = .ok (.iinc 4 1, 3) := by decide +kernel
theorem dX8_frameOf_88 : decode cX8_frameOf 88 = .ok (.goto (-27), 3) := by decide +kernel
theorem dX8_frameOf_91 : decode cX8_frameOf 91 = .ok (.iload_n 3, 1) := by decide +kernel
theorem dX8_frameOf_92 : decode cX8_frameOf 92 = .ok (.ireturn, 1) := by decide +kernel
theorem dX8_pixel_0 : decode cX8_pixel 0 = .ok (.aload_n 0, 1) := by decide +kernel
theorem dX8_pixel_1 : decode cX8_pixel 1 = .ok (.iload_n 1, 1) := by decide +kernel
theorem dX8_pixel_2 : decode cX8_pixel 2 = .ok (.invokevirtual 97, 3) := by decide +kernel
theorem dX8_pixel_5 : decode cX8_pixel 5 = .ok (.ifCond .eq 19, 3) := by decide +kernel
theorem dX8_pixel_8 : decode cX8_pixel 8 = .ok (.aload_n 0, 1) := by decide +kernel
theorem dX8_pixel_9 : decode cX8_pixel 9 = .ok (.iload_n 2, 1) := by decide +kernel
theorem dX8_pixel_10 : decode cX8_pixel 10 = .ok (.invokevirtual 79, 3) := by decide +kernel
theorem dX8_pixel_13 : decode cX8_pixel 13 = .ok (.ifCond .eq 11, 3) := by decide +kernel
theorem dX8_pixel_16 : decode cX8_pixel 16 = .ok (.aload_n 0, 1) := by decide +kernel
theorem dX8_pixel_17 : decode cX8_pixel 17 = .ok (.iload_n 3, 1) := by decide +kernel
theorem dX8_pixel_18 : decode cX8_pixel 18 = .ok (.invokevirtual 82, 3) := by decide +kernel
theorem dX8_pixel_21 : decode cX8_pixel 21 = .ok (.ifCond .ne 6, 3) := by decide +kernel
theorem dX8_pixel_24 : decode cX8_pixel 24 = .ok (.ldc 44, 2) := by decide +kernel
theorem dX8_pixel_26 : decode cX8_pixel 26 = .ok (.ireturn, 1) := by decide +kernel
theorem dX8_pixel_27 : decode cX8_pixel 27 = .ok (.aload_n 0, 1) := by decide +kernel
theorem dX8_pixel_28 : decode cX8_pixel 28 = .ok (.iload_n 1, 1) := by decide +kernel
theorem dX8_pixel_29 : decode cX8_pixel 29 = .ok (.iload_n 2, 1) := by decide +kernel
theorem dX8_pixel_30 : decode cX8_pixel 30 = .ok (.invokevirtual 107, 3) := by decide +kernel
theorem dX8_pixel_33 : decode cX8_pixel 33 = .ok (.ifCond .eq 13, 3) := by decide +kernel
theorem dX8_pixel_36 : decode cX8_pixel 36 = .ok (.aload_n 0, 1) := by decide +kernel
theorem dX8_pixel_37 : decode cX8_pixel 37 = .ok (.iload_n 1, 1) := by decide +kernel
theorem dX8_pixel_38 : decode cX8_pixel 38 = .ok (.iload_n 2, 1) := by decide +kernel
theorem dX8_pixel_39 : decode cX8_pixel 39 = .ok (.iload_n 3, 1) := by decide +kernel
theorem dX8_pixel_40 : decode cX8_pixel 40 = .ok (.invokevirtual 110, 3) := by decide +kernel
theorem dX8_pixel_43 : decode cX8_pixel 43 = .ok (.goto 5, 3) := by decide +kernel
theorem dX8_pixel_46 : decode cX8_pixel 46 = .ok (.ldc 120, 2) := by decide +kernel
theorem dX8_pixel_48 : decode cX8_pixel 48 = .ok (.ireturn, 1) := by decide +kernel
theorem dX8_edges_0 : decode cX8_edges 0 = .ok (.aload_n 0, 1) := by decide +kernel
theorem dX8_edges_1 : decode cX8_edges 1 = .ok (.iload_n 1, 1) := by decide +kernel
theorem dX8_edges_2 : decode cX8_edges 2 = .ok (.invokevirtual 97, 3) := by decide +kernel
theorem dX8_edges_5 : decode cX8_edges 5 = .ok (.ifCond .eq 11, 3) := by decide +kernel
theorem dX8_edges_8 : decode cX8_edges 8 = .ok (.aload_n 0, 1) := by decide +kernel
theorem dX8_edges_9 : decode cX8_edges 9 = .ok (.iload_n 2, 1) := by decide +kernel
theorem dX8_edges_10 : decode cX8_edges 10 = .ok (.invokevirtual 79, 3) := by decide +kernel
theorem dX8_edges_13 : decode cX8_edges 13 = .ok (.ifCond .ne 6, 3) := by decide +kernel
theorem dX8_edges_16 : decode cX8_edges 16 = .ok (.ldc 44, 2) := by decide +kernel
theorem dX8_edges_18 : decode cX8_edges 18 = .ok (.ireturn, 1) := by decide +kernel
theorem dX8_edges_19 : decode cX8_edges 19 = .ok (.aload_n 0, 1) := by decide +kernel
theorem dX8_edges_20 : decode cX8_edges 20 = .ok (.iload_n 1, 1) := by decide +kernel
theorem dX8_edges_21 : decode cX8_edges 21 = .ok (.iload_n 2, 1) := by decide +kernel
theorem dX8_edges_22 : decode cX8_edges 22 = .ok (.invokevirtual 107, 3) := by decide +kernel
theorem dX8_edges_25 : decode cX8_edges 25 = .ok (.ifCond .eq 12, 3) := by decide +kernel
theorem dX8_edges_28 : decode cX8_edges 28 = .ok (.aload_n 0, 1) := by decide +kernel
theorem dX8_edges_29 : decode cX8_edges 29 = .ok (.iload_n 1, 1) := by decide +kernel
theorem dX8_edges_30 : decode cX8_edges 30 = .ok (.iload_n 2, 1) := by decide +kernel
theorem dX8_edges_31 : decode cX8_edges 31 = .ok (.invokevirtual 117, 3) := by decide +kernel
theorem dX8_edges_34 : decode cX8_edges 34 = .ok (.goto 5, 3) := by decide +kernel
theorem dX8_edges_37 : decode cX8_edges 37 = .ok (.ldc 120, 2) := by decide +kernel
theorem dX8_edges_39 : decode cX8_edges 39 = .ok (.ireturn, 1) := by decide +kernel
theorem dX8_pass_0 : decode cX8_pass 0 = .ok (.iload_n 1, 1) := by decide +kernel
theorem dX8_pass_1 : decode cX8_pass 1 = .ok (.iconst 1, 1) := by decide +kernel
theorem dX8_pass_2 : decode cX8_pass 2 = .ok (.sipush 200, 3) := by decide +kernel
theorem dX8_pass_5 : decode cX8_pass 5 = .ok (.invokestatic 36, 3) := by decide +kernel
theorem dX8_pass_8 : decode cX8_pass 8 = .ok (.ifCond .ne 6, 3) := by decide +kernel
theorem dX8_pass_11 : decode cX8_pass 11 = .ok (.ldc 44, 2) := by decide +kernel
theorem dX8_pass_13 : decode cX8_pass 13 = .ok (.ireturn, 1) := by decide +kernel
theorem dX8_pass_14 : decode cX8_pass 14 = .ok (.aload_n 0, 1) := by decide +kernel
theorem dX8_pass_15 : decode cX8_pass 15 = .ok (.getfield 7, 3) := by decide +kernel
theorem dX8_pass_18 : decode cX8_pass 18 = .ok (.bipush 33, 2) := by decide +kernel
theorem dX8_pass_20 : decode cX8_pass 20 = .ok (.iaload, 1) := by decide +kernel
theorem dX8_pass_21 : decode cX8_pass 21 = .ok (.iload_n 1, 1) := by decide +kernel
theorem dX8_pass_22 : decode cX8_pass 22 = .ok (.iadd, 1) := by decide +kernel
theorem dX8_pass_23 : decode cX8_pass 23 = .ok (.sipush 20000, 3) := by decide +kernel
theorem dX8_pass_26 : decode cX8_pass 26 = .ok (.if_icmp .le 6, 3) := by decide +kernel
theorem dX8_pass_29 : decode cX8_pass 29 = .ok (.ldc 54, 2) := by decide +kernel
theorem dX8_pass_31 : decode cX8_pass 31 = .ok (.ireturn, 1) := by decide +kernel
theorem dX8_pass_32 : decode cX8_pass 32 = .ok (.aload_n 0, 1) := by decide +kernel
theorem dX8_pass_33 : decode cX8_pass 33 = .ok (.invokevirtual 46, 3) := by decide +kernel
theorem dX8_pass_36 : decode cX8_pass 36 = .ok (.aload_n 0, 1) := by decide +kernel
theorem dX8_pass_37 : decode cX8_pass 37 = .ok (.getfield 7, 3) := by decide +kernel
theorem dX8_pass_40 : decode cX8_pass 40 = .ok (.bipush 33, 2) := by decide +kernel
theorem dX8_pass_42 : decode cX8_pass 42 = .ok (.dup2, 1) := by decide +kernel
theorem dX8_pass_43 : decode cX8_pass 43 = .ok (.iaload, 1) := by decide +kernel
theorem dX8_pass_44 : decode cX8_pass 44 = .ok (.iload_n 1, 1) := by decide +kernel
theorem dX8_pass_45 : decode cX8_pass 45 = .ok (.iadd, 1) := by decide +kernel
theorem dX8_pass_46 : decode cX8_pass 46 = .ok (.iastore, 1) := by decide +kernel
theorem dX8_pass_47 : decode cX8_pass 47 = .ok (.aload_n 0, 1) := by decide +kernel
theorem dX8_pass_48 : decode cX8_pass 48 = .ok (.getfield 7, 3) := by decide +kernel
theorem dX8_pass_51 : decode cX8_pass 51 = .ok (.bipush 33, 2) := by decide +kernel
theorem dX8_pass_53 : decode cX8_pass 53 = .ok (.iaload, 1) := by decide +kernel
theorem dX8_pass_54 : decode cX8_pass 54 = .ok (.ireturn, 1) := by decide +kernel
theorem dX8_size_0 : decode cX8_size 0 = .ok (.iload_n 0, 1) := by decide +kernel
theorem dX8_size_1 : decode cX8_size 1 = .ok (.ifCond .ge 8, 3) := by decide +kernel
theorem dX8_size_4 : decode cX8_size 4 = .ok (.iload_n 0, 1) := by decide +kernel
theorem dX8_size_5 : decode cX8_size 5 = .ok (.ineg, 1) := by decide +kernel
theorem dX8_size_6 : decode cX8_size 6 = .ok (.goto 4, 3) := by decide +kernel
theorem dX8_size_9 : decode cX8_size 9 = .ok (.iload_n 0, 1) := by decide +kernel
theorem dX8_size_10 : decode cX8_size 10 = .ok (.ireturn, 1) := by decide +kernel
theorem dX8_agreeing_0 : decode cX8_agreeing 0 = .ok (.iconst 0, 1) := by decide +kernel
theorem dX8_agreeing_1 : decode cX8_agreeing 1 = .ok (.istore_n 3, 1) := by decide +kernel
theorem dX8_agreeing_2 : decode cX8_agreeing 2 = .ok (.iconst 1, 1) := by decide +kernel
theorem dX8_agreeing_3 : decode cX8_agreeing 3 = .ok (.istore 4, 2) := by decide +kernel
theorem dX8_agreeing_5 : decode cX8_agreeing 5 = .ok (.iload 4, 2) := by decide +kernel
theorem dX8_agreeing_7 : decode cX8_agreeing 7 = .ok (.bipush 16, 2) := by decide +kernel
theorem dX8_agreeing_9 : decode cX8_agreeing 9 = .ok (.if_icmp .ge 50, 3) := by decide +kernel
theorem dX8_agreeing_12 : decode cX8_agreeing 12 = .ok (.iload_n 3, 1) := by decide +kernel
theorem dX8_agreeing_13 : decode cX8_agreeing 13 = .ok (.iload_n 0, 1) := by decide +kernel
theorem dX8_agreeing_14 : decode cX8_agreeing 14 = .ok (.iload 4, 2) := by decide +kernel
theorem dX8_agreeing_16 : decode cX8_agreeing 16 = .ok (.invokestatic 104, 3) := by decide +kernel
theorem dX8_agreeing_19 : decode cX8_agreeing 19 = .ok (.ifCond .eq 31, 3) := by decide +kernel
theorem dX8_agreeing_22 : decode cX8_agreeing 22 = .ok (.iload 4, 2) := by decide +kernel
theorem dX8_agreeing_24 : decode cX8_agreeing 24 = .ok (.iload_n 2, 1) := by decide +kernel
theorem dX8_agreeing_25 : decode cX8_agreeing 25 = .ok (.iadd, 1) := by decide +kernel
theorem dX8_agreeing_26 : decode cX8_agreeing 26 = .ok (.iconst 1, 1) := by decide +kernel
theorem dX8_agreeing_27 : decode cX8_agreeing 27 = .ok (.bipush 15, 2) := by decide +kernel
theorem dX8_agreeing_29 : decode cX8_agreeing 29 = .ok (.invokestatic 36, 3) := by decide +kernel
theorem dX8_agreeing_32 : decode cX8_agreeing 32 = .ok (.ifCond .eq 18, 3) := by decide +kernel
theorem dX8_agreeing_35 : decode cX8_agreeing 35 = .ok (.iload_n 1, 1) := by decide +kernel
theorem dX8_agreeing_36 : decode cX8_agreeing 36 = .ok (.iload 4, 2) := by decide +kernel
theorem dX8_agreeing_38 : decode cX8_agreeing 38 = .ok (.iload_n 2, 1) := by decide +kernel
theorem dX8_agreeing_39 : decode cX8_agreeing 39 = .ok (.iadd, 1) := by decide +kernel
theorem dX8_agreeing_40 : decode cX8_agreeing 40 = .ok (.invokestatic 104, 3) := by decide +kernel
theorem dX8_agreeing_43 : decode cX8_agreeing 43 = .ok (.ifCond .eq 7, 3) := by decide +kernel
theorem dX8_agreeing_46 : decode cX8_agreeing 46 = .ok (.iconst 1, 1) := by decide +kernel
theorem dX8_agreeing_47 : decode cX8_agreeing 47 = .ok (.goto 4, 3) := by decide +kernel
theorem dX8_agreeing_50 : decode cX8_agreeing 50 = .ok (.iconst 0, 1) := by decide +kernel
theorem dX8_agreeing_51 : decode cX8_agreeing 51 = .ok (.iadd, 1) := by decide +kernel
theorem dX8_agreeing_52 : decode cX8_agreeing 52 = .ok (.istore_n 3, 1) := by decide +kernel
theorem dX8_agreeing_53 : decode cX8_agreeing 53 = .ok (.iinc 4 1, 3) := by decide +kernel
theorem dX8_agreeing_56 : decode cX8_agreeing 56 = .ok (.goto (-51), 3) := by decide +kernel
theorem dX8_agreeing_59 : decode cX8_agreeing 59 = .ok (.iload_n 3, 1) := by decide +kernel
theorem dX8_agreeing_60 : decode cX8_agreeing 60 = .ok (.ireturn, 1) := by decide +kernel
theorem dX8_voteBy_0 : decode cX8_voteBy 0 = .ok (.ldc 49, 2) := by decide +kernel
theorem dX8_voteBy_2 : decode cX8_voteBy 2 = .ok (.istore_n 2, 1) := by decide +kernel
theorem dX8_voteBy_3 : decode cX8_voteBy 3 = .ok (.iconst 0, 1) := by decide +kernel
theorem dX8_voteBy_4 : decode cX8_voteBy 4 = .ok (.istore_n 3, 1) := by decide +kernel
theorem dX8_voteBy_5 : decode cX8_voteBy 5 = .ok (.bipush (-8), 2) := by decide +kernel
theorem dX8_voteBy_7 : decode cX8_voteBy 7 = .ok (.istore 4, 2) := by decide +kernel
theorem dX8_voteBy_9 : decode cX8_voteBy 9 = .ok (.iload 4, 2) := by decide +kernel
theorem dX8_voteBy_11 : decode cX8_voteBy 11 = .ok (.bipush 9, 2) := by decide +kernel
theorem dX8_voteBy_13 : decode cX8_voteBy 13 = .ok (.if_icmp .ge 53, 3) := by decide +kernel
theorem dX8_voteBy_16 : decode cX8_voteBy 16 = .ok (.iload_n 0, 1) := by decide +kernel
theorem dX8_voteBy_17 : decode cX8_voteBy 17 = .ok (.iload_n 1, 1) := by decide +kernel
theorem dX8_voteBy_18 : decode cX8_voteBy 18 = .ok (.iload 4, 2) := by decide +kernel
theorem dX8_voteBy_20 : decode cX8_voteBy 20 = .ok (.invokestatic 121, 3) := by decide +kernel
theorem dX8_voteBy_23 : decode cX8_voteBy 23 = .ok (.istore 5, 2) := by decide +kernel
theorem dX8_voteBy_25 : decode cX8_voteBy 25 = .ok (.iload 5, 2) := by decide +kernel
theorem dX8_voteBy_27 : decode cX8_voteBy 27 = .ok (.iload_n 3, 1) := by decide +kernel
theorem dX8_voteBy_28 : decode cX8_voteBy 28 = .ok (.if_icmp .gt 26, 3) := by decide +kernel
theorem dX8_voteBy_31 : decode cX8_voteBy 31 = .ok (.iload 5, 2) := by decide +kernel
theorem dX8_voteBy_33 : decode cX8_voteBy 33 = .ok (.iload_n 3, 1) := by decide +kernel
theorem dX8_voteBy_34 : decode cX8_voteBy 34 = .ok (.if_icmp .ne 26, 3) := by decide +kernel
theorem dX8_voteBy_37 : decode cX8_voteBy 37 = .ok (.iload 5, 2) := by decide +kernel
theorem dX8_voteBy_39 : decode cX8_voteBy 39 = .ok (.ifCond .le 21, 3) := by decide +kernel
theorem dX8_voteBy_42 : decode cX8_voteBy 42 = .ok (.iload 4, 2) := by decide +kernel
theorem dX8_voteBy_44 : decode cX8_voteBy 44 = .ok (.invokestatic 124, 3) := by decide +kernel
theorem dX8_voteBy_47 : decode cX8_voteBy 47 = .ok (.iload_n 2, 1) := by decide +kernel
theorem dX8_voteBy_48 : decode cX8_voteBy 48 = .ok (.invokestatic 124, 3) := by decide +kernel
theorem dX8_voteBy_51 : decode cX8_voteBy 51 = .ok (.if_icmp .ge 9, 3) := by decide +kernel
theorem dX8_voteBy_54 : decode cX8_voteBy 54 = .ok (.iload 4, 2) := by decide +kernel
theorem dX8_voteBy_56 : decode cX8_voteBy 56 = .ok (.istore_n 2, 1) := by decide +kernel
theorem dX8_voteBy_57 : decode cX8_voteBy 57 = .ok (.iload 5, 2) := by decide +kernel
theorem dX8_voteBy_59 : decode cX8_voteBy 59 = .ok (.istore_n 3, 1) := by decide +kernel
theorem dX8_voteBy_60 : decode cX8_voteBy 60 = .ok (.iinc 4 1, 3) := by decide +kernel
theorem dX8_voteBy_63 : decode cX8_voteBy 63 = .ok (.goto (-54), 3) := by decide +kernel
theorem dX8_voteBy_66 : decode cX8_voteBy 66 = .ok (.iload_n 2, 1) := by decide +kernel
theorem dX8_voteBy_67 : decode cX8_voteBy 67 = .ok (.ireturn, 1) := by decide +kernel
theorem dX8_voteOf_0 : decode cX8_voteOf 0 = .ok (.aload_n 0, 1) := by decide +kernel
theorem dX8_voteOf_1 : decode cX8_voteOf 1 = .ok (.iload_n 1, 1) := by decide +kernel
theorem dX8_voteOf_2 : decode cX8_voteOf 2 = .ok (.iload_n 3, 1) := by decide +kernel
theorem dX8_voteOf_3 : decode cX8_voteOf 3 = .ok (.invokevirtual 117, 3) := by decide +kernel
theorem dX8_voteOf_6 : decode cX8_voteOf 6 = .ok (.aload_n 0, 1) := by decide +kernel
theorem dX8_voteOf_7 : decode cX8_voteOf 7 = .ok (.iload_n 2, 1) := by decide +kernel
theorem dX8_voteOf_8 : decode cX8_voteOf 8 = .ok (.iload_n 3, 1) := by decide +kernel
theorem dX8_voteOf_9 : decode cX8_voteOf 9 = .ok (.invokevirtual 117, 3) := by decide +kernel
theorem dX8_voteOf_12 : decode cX8_voteOf 12 = .ok (.invokestatic 127, 3) := by decide +kernel
theorem dX8_voteOf_15 : decode cX8_voteOf 15 = .ok (.ireturn, 1) := by decide +kernel
theorem dX8_areFrames_0 : decode cX8_areFrames 0 = .ok (.aload_n 0, 1) := by decide +kernel
theorem dX8_areFrames_1 : decode cX8_areFrames 1 = .ok (.iload_n 1, 1) := by decide +kernel
theorem dX8_areFrames_2 : decode cX8_areFrames 2 = .ok (.invokevirtual 97, 3) := by decide +kernel
theorem dX8_areFrames_5 : decode cX8_areFrames 5 = .ok (.ifCond .eq 20, 3) := by decide +kernel
theorem dX8_areFrames_8 : decode cX8_areFrames 8 = .ok (.aload_n 0, 1) := by decide +kernel
theorem dX8_areFrames_9 : decode cX8_areFrames 9 = .ok (.iload_n 2, 1) := by decide +kernel
theorem dX8_areFrames_10 : decode cX8_areFrames 10 = .ok (.invokevirtual 97, 3) := by decide +kernel
theorem dX8_areFrames_13 : decode cX8_areFrames 13 = .ok (.ifCond .eq 12, 3) := by decide +kernel
theorem dX8_areFrames_16 : decode cX8_areFrames 16 = .ok (.iload_n 1, 1) := by decide +kernel
theorem dX8_areFrames_17 : decode cX8_areFrames 17 = .ok (.iload_n 2, 1) := by decide +kernel
theorem dX8_areFrames_18 : decode cX8_areFrames 18 = .ok (.if_icmp .eq 7, 3) := by decide +kernel
theorem dX8_areFrames_21 : decode cX8_areFrames 21 = .ok (.iconst 1, 1) := by decide +kernel
theorem dX8_areFrames_22 : decode cX8_areFrames 22 = .ok (.goto 4, 3) := by decide +kernel
theorem dX8_areFrames_25 : decode cX8_areFrames 25 = .ok (.iconst 0, 1) := by decide +kernel
theorem dX8_areFrames_26 : decode cX8_areFrames 26 = .ok (.ireturn, 1) := by decide +kernel
theorem dX8_vote_0 : decode cX8_vote 0 = .ok (.aload_n 0, 1) := by decide +kernel
theorem dX8_vote_1 : decode cX8_vote 1 = .ok (.iload_n 1, 1) := by decide +kernel
theorem dX8_vote_2 : decode cX8_vote 2 = .ok (.iload_n 2, 1) := by decide +kernel
theorem dX8_vote_3 : decode cX8_vote 3 = .ok (.invokevirtual 130, 3) := by decide +kernel
theorem dX8_vote_6 : decode cX8_vote 6 = .ok (.ifCond .eq 11, 3) := by decide +kernel
theorem dX8_vote_9 : decode cX8_vote 9 = .ok (.aload_n 0, 1) := by decide +kernel
theorem dX8_vote_10 : decode cX8_vote 10 = .ok (.iload_n 3, 1) := by decide +kernel
theorem dX8_vote_11 : decode cX8_vote 11 = .ok (.invokevirtual 79, 3) := by decide +kernel
theorem dX8_vote_14 : decode cX8_vote 14 = .ok (.ifCond .ne 6, 3) := by decide +kernel
theorem dX8_vote_17 : decode cX8_vote 17 = .ok (.ldc 44, 2) := by decide +kernel
theorem dX8_vote_19 : decode cX8_vote 19 = .ok (.ireturn, 1) := by decide +kernel
theorem dX8_vote_20 : decode cX8_vote 20 = .ok (.aload_n 0, 1) := by decide +kernel
theorem dX8_vote_21 : decode cX8_vote 21 = .ok (.iload_n 1, 1) := by decide +kernel
theorem dX8_vote_22 : decode cX8_vote 22 = .ok (.iload_n 2, 1) := by decide +kernel
theorem dX8_vote_23 : decode cX8_vote 23 = .ok (.iload_n 3, 1) := by decide +kernel
theorem dX8_vote_24 : decode cX8_vote 24 = .ok (.invokevirtual 133, 3) := by decide +kernel
theorem dX8_vote_27 : decode cX8_vote 27 = .ok (.istore 4, 2) := by decide +kernel
theorem dX8_vote_29 : decode cX8_vote 29 = .ok (.iload 4, 2) := by decide +kernel
theorem dX8_vote_31 : decode cX8_vote 31 = .ok (.ldc 49, 2) := by decide +kernel
theorem dX8_vote_33 : decode cX8_vote 33 = .ok (.if_icmp .ne 8, 3) := by decide +kernel
theorem dX8_vote_36 : decode cX8_vote 36 = .ok (.ldc 120, 2) := by decide +kernel
theorem dX8_vote_38 : decode cX8_vote 38 = .ok (.goto 5, 3) := by decide +kernel
theorem dX8_vote_41 : decode cX8_vote 41 = .ok (.iload 4, 2) := by decide +kernel
theorem dX8_vote_43 : decode cX8_vote 43 = .ok (.ireturn, 1) := by decide +kernel
theorem dX8_noVotes_0 : decode cX8_noVotes 0 = .ok (.iconst 0, 1) := by decide +kernel
theorem dX8_noVotes_1 : decode cX8_noVotes 1 = .ok (.istore_n 1, 1) := by decide +kernel
theorem dX8_noVotes_2 : decode cX8_noVotes 2 = .ok (.iload_n 1, 1) := by decide +kernel
theorem dX8_noVotes_3 : decode cX8_noVotes 3 = .ok (.bipush 17, 2) := by decide +kernel
theorem dX8_noVotes_5 : decode cX8_noVotes 5 = .ok (.if_icmp .ge 16, 3) := by decide +kernel
theorem dX8_noVotes_8 : decode cX8_noVotes 8 = .ok (.aload_n 0, 1) := by decide +kernel
theorem dX8_noVotes_9 : decode cX8_noVotes 9 = .ok (.getfield 22, 3) := by decide +kernel
theorem dX8_noVotes_12 : decode cX8_noVotes 12 = .ok (.iload_n 1, 1) := by decide +kernel
theorem dX8_noVotes_13 : decode cX8_noVotes 13 = .ok (.iconst 0, 1) := by decide +kernel
theorem dX8_noVotes_14 : decode cX8_noVotes 14 = .ok (.iastore, 1) := by decide +kernel
theorem dX8_noVotes_15 : decode cX8_noVotes 15 = .ok (.iinc 1 1, 3) := by decide +kernel
theorem dX8_noVotes_18 : decode cX8_noVotes 18 = .ok (.goto (-16), 3) := by decide +kernel
theorem dX8_noVotes_21 : decode cX8_noVotes 21 = .ok (.return_, 1) := by decide +kernel
theorem dX8_counts_0 : decode cX8_counts 0 = .ok (.iload_n 1, 1) := by decide +kernel
theorem dX8_counts_1 : decode cX8_counts 1 = .ok (.ldc 49, 2) := by decide +kernel
theorem dX8_counts_3 : decode cX8_counts 3 = .ok (.if_icmp .eq 16, 3) := by decide +kernel
theorem dX8_counts_6 : decode cX8_counts 6 = .ok (.aload_n 0, 1) := by decide +kernel
theorem dX8_counts_7 : decode cX8_counts 7 = .ok (.getfield 22, 3) := by decide +kernel
theorem dX8_counts_10 : decode cX8_counts 10 = .ok (.iload_n 1, 1) := by decide +kernel
theorem dX8_counts_11 : decode cX8_counts 11 = .ok (.bipush 8, 2) := by decide +kernel
theorem dX8_counts_13 : decode cX8_counts 13 = .ok (.iadd, 1) := by decide +kernel
theorem dX8_counts_14 : decode cX8_counts 14 = .ok (.dup2, 1) := by decide +kernel
theorem dX8_counts_15 : decode cX8_counts 15 = .ok (.iaload, 1) := by decide +kernel
theorem dX8_counts_16 : decode cX8_counts 16 = .ok (.iload_n 2, 1) := by decide +kernel
theorem dX8_counts_17 : decode cX8_counts 17 = .ok (.iadd, 1) := by decide +kernel
theorem dX8_counts_18 : decode cX8_counts 18 = .ok (.iastore, 1) := by decide +kernel
theorem dX8_counts_19 : decode cX8_counts 19 = .ok (.return_, 1) := by decide +kernel
theorem dX8_mostVoted_0 : decode cX8_mostVoted 0 = .ok (.iconst 0, 1) := by decide +kernel
theorem dX8_mostVoted_1 : decode cX8_mostVoted 1 = .ok (.istore_n 1, 1) := by decide +kernel
theorem dX8_mostVoted_2 : decode cX8_mostVoted 2 = .ok (.iconst 0, 1) := by decide +kernel
theorem dX8_mostVoted_3 : decode cX8_mostVoted 3 = .ok (.istore_n 2, 1) := by decide +kernel
theorem dX8_mostVoted_4 : decode cX8_mostVoted 4 = .ok (.iconst 1, 1) := by decide +kernel
theorem dX8_mostVoted_5 : decode cX8_mostVoted 5 = .ok (.istore_n 3, 1) := by decide +kernel
theorem dX8_mostVoted_6 : decode cX8_mostVoted 6 = .ok (.iload_n 3, 1) := by decide +kernel
theorem dX8_mostVoted_7 : decode cX8_mostVoted 7 = .ok (.bipush 17, 2) := by decide +kernel
theorem dX8_mostVoted_9 : decode cX8_mostVoted 9 = .ok (.if_icmp .ge 49, 3) := by decide +kernel
theorem dX8_mostVoted_12 : decode cX8_mostVoted 12 = .ok (.aload_n 0, 1) := by decide +kernel
theorem dX8_mostVoted_13 : decode cX8_mostVoted 13 = .ok (.getfield 22, 3) := by decide +kernel
theorem dX8_mostVoted_16 : decode cX8_mostVoted 16 = .ok (.iload_n 3, 1) := by decide +kernel
theorem dX8_mostVoted_17 : decode cX8_mostVoted 17 = .ok (.iaload, 1) := by decide +kernel
theorem dX8_mostVoted_18 : decode cX8_mostVoted 18 = .ok (.aload_n 0, 1) := by decide +kernel
theorem dX8_mostVoted_19 : decode cX8_mostVoted 19 = .ok (.getfield 22, 3) := by decide +kernel
theorem dX8_mostVoted_22 : decode cX8_mostVoted 22 = .ok (.iload_n 1, 1) := by decide +kernel
theorem dX8_mostVoted_23 : decode cX8_mostVoted 23 = .ok (.iaload, 1) := by decide +kernel
theorem dX8_mostVoted_24 : decode cX8_mostVoted 24 = .ok (.if_icmp .le 10, 3) := by decide +kernel
theorem dX8_mostVoted_27 : decode cX8_mostVoted 27 = .ok (.iload_n 3, 1) := by decide +kernel
theorem dX8_mostVoted_28 : decode cX8_mostVoted 28 = .ok (.istore_n 1, 1) := by decide +kernel
theorem dX8_mostVoted_29 : decode cX8_mostVoted 29 = .ok (.iconst 0, 1) := by decide +kernel
theorem dX8_mostVoted_30 : decode cX8_mostVoted 30 = .ok (.istore_n 2, 1) := by decide +kernel
theorem dX8_mostVoted_31 : decode cX8_mostVoted 31 = .ok (.goto 21, 3) := by decide +kernel
theorem dX8_mostVoted_34 : decode cX8_mostVoted 34 = .ok (.aload_n 0, 1) := by decide +kernel
theorem dX8_mostVoted_35 : decode cX8_mostVoted 35 = .ok (.getfield 22, 3) := by decide +kernel
theorem dX8_mostVoted_38 : decode cX8_mostVoted 38 = .ok (.iload_n 3, 1) := by decide +kernel
theorem dX8_mostVoted_39 : decode cX8_mostVoted 39 = .ok (.iaload, 1) := by decide +kernel
theorem dX8_mostVoted_40 : decode cX8_mostVoted 40 = .ok (.aload_n 0, 1) := by decide +kernel
theorem dX8_mostVoted_41 : decode cX8_mostVoted 41 = .ok (.getfield 22, 3) := by decide +kernel
theorem dX8_mostVoted_44 : decode cX8_mostVoted 44 = .ok (.iload_n 1, 1) := by decide +kernel
theorem dX8_mostVoted_45 : decode cX8_mostVoted 45 = .ok (.iaload, 1) := by decide +kernel
theorem dX8_mostVoted_46 : decode cX8_mostVoted 46 = .ok (.if_icmp .ne 6, 3) := by decide +kernel
theorem dX8_mostVoted_49 : decode cX8_mostVoted 49 = .ok (.iinc 2 1, 3) := by decide +kernel
theorem dX8_mostVoted_52 : decode cX8_mostVoted 52 = .ok (.iinc 3 1, 3) := by decide +kernel
theorem dX8_mostVoted_55 : decode cX8_mostVoted 55 = .ok (.goto (-49), 3) := by decide +kernel
theorem dX8_mostVoted_58 : decode cX8_mostVoted 58 = .ok (.aload_n 0, 1) := by decide +kernel
theorem dX8_mostVoted_59 : decode cX8_mostVoted 59 = .ok (.getfield 22, 3) := by decide +kernel
theorem dX8_mostVoted_62 : decode cX8_mostVoted 62 = .ok (.iload_n 1, 1) := by decide +kernel
theorem dX8_mostVoted_63 : decode cX8_mostVoted 63 = .ok (.iaload, 1) := by decide +kernel
theorem dX8_mostVoted_64 : decode cX8_mostVoted 64 = .ok (.ifCond .eq 7, 3) := by decide +kernel
theorem dX8_mostVoted_67 : decode cX8_mostVoted 67 = .ok (.iload_n 2, 1) := by decide +kernel
theorem dX8_mostVoted_68 : decode cX8_mostVoted 68 = .ok (.ifCond .le 8, 3) := by decide +kernel
theorem dX8_mostVoted_71 : decode cX8_mostVoted 71 = .ok (.ldc 49, 2) := by decide +kernel
theorem dX8_mostVoted_73 : decode cX8_mostVoted 73 = .ok (.goto 7, 3) := by decide +kernel
theorem dX8_mostVoted_76 : decode cX8_mostVoted 76 = .ok (.iload_n 1, 1) := by decide +kernel
theorem dX8_mostVoted_77 : decode cX8_mostVoted 77 = .ok (.bipush 8, 2) := by decide +kernel
theorem dX8_mostVoted_79 : decode cX8_mostVoted 79 = .ok (.isub, 1) := by decide +kernel
theorem dX8_mostVoted_80 : decode cX8_mostVoted 80 = .ok (.ireturn, 1) := by decide +kernel
theorem dX8_weightOf_0 : decode cX8_weightOf 0 = .ok (.aload_n 0, 1) := by decide +kernel
theorem dX8_weightOf_1 : decode cX8_weightOf 1 = .ok (.getfield 7, 3) := by decide +kernel
theorem dX8_weightOf_4 : decode cX8_weightOf 4 = .ok (.sipush 847, 3) := by decide +kernel
theorem dX8_weightOf_7 : decode cX8_weightOf 7 = .ok (.iload_n 1, 1) := by decide +kernel
theorem dX8_weightOf_8 : decode cX8_weightOf 8 = .ok (.iadd, 1) := by decide +kernel
theorem dX8_weightOf_9 : decode cX8_weightOf 9 = .ok (.iaload, 1) := by decide +kernel
theorem dX8_weightOf_10 : decode cX8_weightOf 10 = .ok (.aload_n 0, 1) := by decide +kernel
theorem dX8_weightOf_11 : decode cX8_weightOf 11 = .ok (.getfield 7, 3) := by decide +kernel
theorem dX8_weightOf_14 : decode cX8_weightOf 14 = .ok (.sipush 857, 3) := by decide +kernel
theorem dX8_weightOf_17 : decode cX8_weightOf 17 = .ok (.iload_n 1, 1) := by decide +kernel
theorem dX8_weightOf_18 : decode cX8_weightOf 18 = .ok (.iadd, 1) := by decide +kernel
theorem dX8_weightOf_19 : decode cX8_weightOf 19 = .ok (.iaload, 1) := by decide +kernel
theorem dX8_weightOf_20 : decode cX8_weightOf 20 = .ok (.isub, 1) := by decide +kernel
theorem dX8_weightOf_21 : decode cX8_weightOf 21 = .ok (.istore_n 2, 1) := by decide +kernel
theorem dX8_weightOf_22 : decode cX8_weightOf 22 = .ok (.iload_n 2, 1) := by decide +kernel
theorem dX8_weightOf_23 : decode cX8_weightOf 23 = .ok (.ifCond .le 9, 3) := by decide +kernel
theorem dX8_weightOf_26 : decode cX8_weightOf 26 = .ok (.iconst 1, 1) := by decide +kernel
theorem dX8_weightOf_27 : decode cX8_weightOf 27 = .ok (.iload_n 2, 1) := by decide +kernel
theorem dX8_weightOf_28 : decode cX8_weightOf 28 = .ok (.iadd, 1) := by decide +kernel
theorem dX8_weightOf_29 : decode cX8_weightOf 29 = .ok (.goto 4, 3) := by decide +kernel
theorem dX8_weightOf_32 : decode cX8_weightOf 32 = .ok (.iconst 1, 1) := by decide +kernel
theorem dX8_weightOf_33 : decode cX8_weightOf 33 = .ok (.ireturn, 1) := by decide +kernel
theorem dX8_toldBy_0 : decode cX8_toldBy 0 = .ok (.aload_n 0, 1) := by decide +kernel
theorem dX8_toldBy_1 : decode cX8_toldBy 1 = .ok (.invokevirtual 136, 3) := by decide +kernel
theorem dX8_toldBy_4 : decode cX8_toldBy 4 = .ok (.iconst 0, 1) := by decide +kernel
theorem dX8_toldBy_5 : decode cX8_toldBy 5 = .ok (.istore 4, 2) := by decide +kernel
theorem dX8_toldBy_7 : decode cX8_toldBy 7 = .ok (.iload 4, 2) := by decide +kernel
theorem dX8_toldBy_9 : decode cX8_toldBy 9 = .ok (.aload_n 0, 1) := by decide +kernel
theorem dX8_toldBy_10 : decode cX8_toldBy 10 = .ok (.getfield 7, 3) := by decide +kernel
theorem dX8_toldBy_13 : decode cX8_toldBy 13 = .ok (.iconst 0, 1) := by decide +kernel
theorem dX8_toldBy_14 : decode cX8_toldBy 14 = .ok (.iaload, 1) := by decide +kernel
theorem dX8_toldBy_15 : decode cX8_toldBy 15 = .ok (.if_icmp .ge 35, 3) := by decide +kernel
theorem dX8_toldBy_18 : decode cX8_toldBy 18 = .ok (.aload_n 0, 1) := by decide +kernel
theorem dX8_toldBy_19 : decode cX8_toldBy 19 = .ok (.aload_n 0, 1) := by decide +kernel
theorem dX8_toldBy_20 : decode cX8_toldBy 20 = .ok (.iload_n 1, 1) := by decide +kernel
theorem dX8_toldBy_21 : decode cX8_toldBy 21 = .ok (.iload_n 2, 1) := by decide +kernel
theorem dX8_toldBy_22 : decode cX8_toldBy 22 = .ok (.iload 4, 2) := by decide +kernel
theorem dX8_toldBy_24 : decode cX8_toldBy 24 = .ok (.invokevirtual 133, 3) := by decide +kernel
theorem dX8_toldBy_27 : decode cX8_toldBy 27 = .ok (.iload_n 3, 1) := by decide +kernel
theorem dX8_toldBy_28 : decode cX8_toldBy 28 = .ok (.ifCond .eq 12, 3) := by decide +kernel
theorem dX8_toldBy_31 : decode cX8_toldBy 31 = .ok (.aload_n 0, 1) := by decide +kernel
theorem dX8_toldBy_32 : decode cX8_toldBy 32 = .ok (.iload 4, 2) := by decide +kernel
theorem dX8_toldBy_34 : decode cX8_toldBy 34 = .ok (.invokevirtual 139, 3) := by decide +kernel
theorem dX8_toldBy_37 : decode cX8_toldBy 37 = .ok (.goto 4, 3) := by decide +kernel
theorem dX8_toldBy_40 : decode cX8_toldBy 40 = .ok (.iconst 1, 1) := by decide +kernel
theorem dX8_toldBy_41 : decode cX8_toldBy 41 = .ok (.invokevirtual 142, 3) := by decide +kernel
theorem dX8_toldBy_44 : decode cX8_toldBy 44 = .ok (.iinc 4 1, 3) := by decide +kernel
theorem dX8_toldBy_47 : decode cX8_toldBy 47 = .ok (.goto (-40), 3) := by decide +kernel
theorem dX8_toldBy_50 : decode cX8_toldBy 50 = .ok (.aload_n 0, 1) := by decide +kernel
theorem dX8_toldBy_51 : decode cX8_toldBy 51 = .ok (.invokevirtual 146, 3) := by decide +kernel
theorem dX8_toldBy_54 : decode cX8_toldBy 54 = .ok (.ireturn, 1) := by decide +kernel
theorem dX8_shift_0 : decode cX8_shift 0 = .ok (.aload_n 0, 1) := by decide +kernel
theorem dX8_shift_1 : decode cX8_shift 1 = .ok (.iload_n 1, 1) := by decide +kernel
theorem dX8_shift_2 : decode cX8_shift 2 = .ok (.iload_n 2, 1) := by decide +kernel
theorem dX8_shift_3 : decode cX8_shift 3 = .ok (.invokevirtual 130, 3) := by decide +kernel
theorem dX8_shift_6 : decode cX8_shift 6 = .ok (.ifCond .ne 6, 3) := by decide +kernel
theorem dX8_shift_9 : decode cX8_shift 9 = .ok (.ldc 44, 2) := by decide +kernel
theorem dX8_shift_11 : decode cX8_shift 11 = .ok (.ireturn, 1) := by decide +kernel
theorem dX8_shift_12 : decode cX8_shift 12 = .ok (.aload_n 0, 1) := by decide +kernel
theorem dX8_shift_13 : decode cX8_shift 13 = .ok (.iload_n 1, 1) := by decide +kernel
theorem dX8_shift_14 : decode cX8_shift 14 = .ok (.iload_n 2, 1) := by decide +kernel
theorem dX8_shift_15 : decode cX8_shift 15 = .ok (.iconst 0, 1) := by decide +kernel
theorem dX8_shift_16 : decode cX8_shift 16 = .ok (.invokevirtual 150, 3) := by decide +kernel
theorem dX8_shift_19 : decode cX8_shift 19 = .ok (.istore_n 3, 1) := by decide +kernel
theorem dX8_shift_20 : decode cX8_shift 20 = .ok (.iload_n 3, 1) := by decide +kernel
theorem dX8_shift_21 : decode cX8_shift 21 = .ok (.ldc 49, 2) := by decide +kernel
theorem dX8_shift_23 : decode cX8_shift 23 = .ok (.if_icmp .ne 8, 3) := by decide +kernel
theorem dX8_shift_26 : decode cX8_shift 26 = .ok (.ldc 120, 2) := by decide +kernel
theorem dX8_shift_28 : decode cX8_shift 28 = .ok (.goto 4, 3) := by decide +kernel
theorem dX8_shift_31 : decode cX8_shift 31 = .ok (.iload_n 3, 1) := by decide +kernel
theorem dX8_shift_32 : decode cX8_shift 32 = .ok (.ireturn, 1) := by decide +kernel
theorem dX8_votersOf_0 : decode cX8_votersOf 0 = .ok (.iconst 0, 1) := by decide +kernel
theorem dX8_votersOf_1 : decode cX8_votersOf 1 = .ok (.istore 5, 2) := by decide +kernel
theorem dX8_votersOf_3 : decode cX8_votersOf 3 = .ok (.iconst 0, 1) := by decide +kernel
theorem dX8_votersOf_4 : decode cX8_votersOf 4 = .ok (.istore 6, 2) := by decide +kernel
theorem dX8_votersOf_6 : decode cX8_votersOf 6 = .ok (.iload 6, 2) := by decide +kernel
theorem dX8_votersOf_8 : decode cX8_votersOf 8 = .ok (.aload_n 0, 1) := by decide +kernel
theorem dX8_votersOf_9 : decode cX8_votersOf 9 = .ok (.getfield 7, 3) := by decide +kernel
theorem dX8_votersOf_12 : decode cX8_votersOf 12 = .ok (.iconst 0, 1) := by decide +kernel
theorem dX8_votersOf_13 : decode cX8_votersOf 13 = .ok (.iaload, 1) := by decide +kernel
theorem dX8_votersOf_14 : decode cX8_votersOf 14 = .ok (.if_icmp .ge 55, 3) := by decide +kernel
theorem dX8_votersOf_17 : decode cX8_votersOf 17 = .ok (.aload_n 0, 1) := by decide +kernel
theorem dX8_votersOf_18 : decode cX8_votersOf 18 = .ok (.iload_n 1, 1) := by decide +kernel
theorem dX8_votersOf_19 : decode cX8_votersOf 19 = .ok (.iload_n 2, 1) := by decide +kernel
theorem dX8_votersOf_20 : decode cX8_votersOf 20 = .ok (.iload 6, 2) := by decide +kernel
theorem dX8_votersOf_22 : decode cX8_votersOf 22 = .ok (.invokevirtual 133, 3) := by decide +kernel
theorem dX8_votersOf_25 : decode cX8_votersOf 25 = .ok (.istore 7, 2) := by decide +kernel
theorem dX8_votersOf_27 : decode cX8_votersOf 27 = .ok (.iload 5, 2) := by decide +kernel
theorem dX8_votersOf_29 : decode cX8_votersOf 29 = .ok (.iload 7, 2) := by decide +kernel
theorem dX8_votersOf_31 : decode cX8_votersOf 31 = .ok (.ldc 49, 2) := by decide +kernel
theorem dX8_votersOf_33 : decode cX8_votersOf 33 = .ok (.if_icmp .eq 26, 3) := by decide +kernel
theorem dX8_votersOf_36 : decode cX8_votersOf 36 = .ok (.iload 7, 2) := by decide +kernel
theorem dX8_votersOf_38 : decode cX8_votersOf 38 = .ok (.iload_n 3, 1) := by decide +kernel
theorem dX8_votersOf_39 : decode cX8_votersOf 39 = .ok (.if_icmp .ne 7, 3) := by decide +kernel
theorem dX8_votersOf_42 : decode cX8_votersOf 42 = .ok (.iconst 1, 1) := by decide +kernel
theorem dX8_votersOf_43 : decode cX8_votersOf 43 = .ok (.goto 4, 3) := by decide +kernel
theorem dX8_votersOf_46 : decode cX8_votersOf 46 = .ok (.iconst 0, 1) := by decide +kernel
theorem dX8_votersOf_47 : decode cX8_votersOf 47 = .ok (.iload 4, 2) := by decide +kernel
theorem dX8_votersOf_49 : decode cX8_votersOf 49 = .ok (.if_icmp .ne 10, 3) := by decide +kernel
theorem dX8_votersOf_52 : decode cX8_votersOf 52 = .ok (.iconst 1, 1) := by decide +kernel
theorem dX8_votersOf_53 : decode cX8_votersOf 53 = .ok (.iload 6, 2) := by decide +kernel
theorem dX8_votersOf_55 : decode cX8_votersOf 55 = .ok (.ishl, 1) := by decide +kernel
theorem dX8_votersOf_56 : decode cX8_votersOf 56 = .ok (.goto 4, 3) := by decide +kernel
theorem dX8_votersOf_59 : decode cX8_votersOf 59 = .ok (.iconst 0, 1) := by decide +kernel
theorem dX8_votersOf_60 : decode cX8_votersOf 60 = .ok (.ior, 1) := by decide +kernel
theorem dX8_votersOf_61 : decode cX8_votersOf 61 = .ok (.istore 5, 2) := by decide +kernel
theorem dX8_votersOf_63 : decode cX8_votersOf 63 = .ok (.iinc 6 1, 3) := by decide +kernel
theorem dX8_votersOf_66 : decode cX8_votersOf 66 = .ok (.goto (-60), 3) := by decide +kernel
theorem dX8_votersOf_69 : decode cX8_votersOf 69 = .ok (.iload 5, 2) := by decide +kernel
theorem dX8_votersOf_71 : decode cX8_votersOf 71 = .ok (.ireturn, 1) := by decide +kernel
theorem dX8_voters_0 : decode cX8_voters 0 = .ok (.aload_n 0, 1) := by decide +kernel
theorem dX8_voters_1 : decode cX8_voters 1 = .ok (.iload_n 1, 1) := by decide +kernel
theorem dX8_voters_2 : decode cX8_voters 2 = .ok (.iload_n 2, 1) := by decide +kernel
theorem dX8_voters_3 : decode cX8_voters 3 = .ok (.invokevirtual 130, 3) := by decide +kernel
theorem dX8_voters_6 : decode cX8_voters 6 = .ok (.ifCond .eq 25, 3) := by decide +kernel
theorem dX8_voters_9 : decode cX8_voters 9 = .ok (.iload_n 3, 1) := by decide +kernel
theorem dX8_voters_10 : decode cX8_voters 10 = .ok (.bipush (-8), 2) := by decide +kernel
theorem dX8_voters_12 : decode cX8_voters 12 = .ok (.bipush 8, 2) := by decide +kernel
theorem dX8_voters_14 : decode cX8_voters 14 = .ok (.invokestatic 36, 3) := by decide +kernel
theorem dX8_voters_17 : decode cX8_voters 17 = .ok (.ifCond .eq 14, 3) := by decide +kernel
theorem dX8_voters_20 : decode cX8_voters 20 = .ok (.aload_n 0, 1) := by decide +kernel
theorem dX8_voters_21 : decode cX8_voters 21 = .ok (.iload_n 1, 1) := by decide +kernel
theorem dX8_voters_22 : decode cX8_voters 22 = .ok (.iload_n 2, 1) := by decide +kernel
theorem dX8_voters_23 : decode cX8_voters 23 = .ok (.iload_n 3, 1) := by decide +kernel
theorem dX8_voters_24 : decode cX8_voters 24 = .ok (.iconst 1, 1) := by decide +kernel
theorem dX8_voters_25 : decode cX8_voters 25 = .ok (.invokevirtual 154, 3) := by decide +kernel
theorem dX8_voters_28 : decode cX8_voters 28 = .ok (.goto 5, 3) := by decide +kernel
theorem dX8_voters_31 : decode cX8_voters 31 = .ok (.ldc 44, 2) := by decide +kernel
theorem dX8_voters_33 : decode cX8_voters 33 = .ok (.ireturn, 1) := by decide +kernel
theorem dX8_dissent_0 : decode cX8_dissent 0 = .ok (.aload_n 0, 1) := by decide +kernel
theorem dX8_dissent_1 : decode cX8_dissent 1 = .ok (.iload_n 1, 1) := by decide +kernel
theorem dX8_dissent_2 : decode cX8_dissent 2 = .ok (.iload_n 2, 1) := by decide +kernel
theorem dX8_dissent_3 : decode cX8_dissent 3 = .ok (.invokevirtual 130, 3) := by decide +kernel
theorem dX8_dissent_6 : decode cX8_dissent 6 = .ok (.ifCond .ne 6, 3) := by decide +kernel
theorem dX8_dissent_9 : decode cX8_dissent 9 = .ok (.ldc 44, 2) := by decide +kernel
theorem dX8_dissent_11 : decode cX8_dissent 11 = .ok (.ireturn, 1) := by decide +kernel
theorem dX8_dissent_12 : decode cX8_dissent 12 = .ok (.aload_n 0, 1) := by decide +kernel
theorem dX8_dissent_13 : decode cX8_dissent 13 = .ok (.iload_n 1, 1) := by decide +kernel
theorem dX8_dissent_14 : decode cX8_dissent 14 = .ok (.iload_n 2, 1) := by decide +kernel
theorem dX8_dissent_15 : decode cX8_dissent 15 = .ok (.iconst 0, 1) := by decide +kernel
theorem dX8_dissent_16 : decode cX8_dissent 16 = .ok (.invokevirtual 150, 3) := by decide +kernel
theorem dX8_dissent_19 : decode cX8_dissent 19 = .ok (.istore_n 3, 1) := by decide +kernel
theorem dX8_dissent_20 : decode cX8_dissent 20 = .ok (.iload_n 3, 1) := by decide +kernel
theorem dX8_dissent_21 : decode cX8_dissent 21 = .ok (.ldc 49, 2) := by decide +kernel
theorem dX8_dissent_23 : decode cX8_dissent 23 = .ok (.if_icmp .ne 8, 3) := by decide +kernel
theorem dX8_dissent_26 : decode cX8_dissent 26 = .ok (.ldc 120, 2) := by decide +kernel
theorem dX8_dissent_28 : decode cX8_dissent 28 = .ok (.goto 11, 3) := by decide +kernel
theorem dX8_dissent_31 : decode cX8_dissent 31 = .ok (.aload_n 0, 1) := by decide +kernel
theorem dX8_dissent_32 : decode cX8_dissent 32 = .ok (.iload_n 1, 1) := by decide +kernel
theorem dX8_dissent_33 : decode cX8_dissent 33 = .ok (.iload_n 2, 1) := by decide +kernel
theorem dX8_dissent_34 : decode cX8_dissent 34 = .ok (.iload_n 3, 1) := by decide +kernel
theorem dX8_dissent_35 : decode cX8_dissent 35 = .ok (.iconst 0, 1) := by decide +kernel
theorem dX8_dissent_36 : decode cX8_dissent 36 = .ok (.invokevirtual 154, 3) := by decide +kernel
theorem dX8_dissent_39 : decode cX8_dissent 39 = .ok (.ireturn, 1) := by decide +kernel
theorem dX8_speed_0 : decode cX8_speed 0 = .ok (.aload_n 0, 1) := by decide +kernel
theorem dX8_speed_1 : decode cX8_speed 1 = .ok (.iload_n 1, 1) := by decide +kernel
theorem dX8_speed_2 : decode cX8_speed 2 = .ok (.iload_n 2, 1) := by decide +kernel
theorem dX8_speed_3 : decode cX8_speed 3 = .ok (.invokevirtual 130, 3) := by decide +kernel
theorem dX8_speed_6 : decode cX8_speed 6 = .ok (.ifCond .ne 6, 3) := by decide +kernel
theorem dX8_speed_9 : decode cX8_speed 9 = .ok (.ldc 44, 2) := by decide +kernel
theorem dX8_speed_11 : decode cX8_speed 11 = .ok (.ireturn, 1) := by decide +kernel
theorem dX8_speed_12 : decode cX8_speed 12 = .ok (.aload_n 0, 1) := by decide +kernel
theorem dX8_speed_13 : decode cX8_speed 13 = .ok (.iload_n 2, 1) := by decide +kernel
theorem dX8_speed_14 : decode cX8_speed 14 = .ok (.iconst 0, 1) := by decide +kernel
theorem dX8_speed_15 : decode cX8_speed 15 = .ok (.invokevirtual 100, 3) := by decide +kernel
theorem dX8_speed_18 : decode cX8_speed 18 = .ok (.aload_n 0, 1) := by decide +kernel
theorem dX8_speed_19 : decode cX8_speed 19 = .ok (.iload_n 1, 1) := by decide +kernel
theorem dX8_speed_20 : decode cX8_speed 20 = .ok (.iconst 0, 1) := by decide +kernel
theorem dX8_speed_21 : decode cX8_speed 21 = .ok (.invokevirtual 100, 3) := by decide +kernel
theorem dX8_speed_24 : decode cX8_speed 24 = .ok (.isub, 1) := by decide +kernel
theorem dX8_speed_25 : decode cX8_speed 25 = .ok (.istore_n 3, 1) := by decide +kernel
theorem dX8_speed_26 : decode cX8_speed 26 = .ok (.iload_n 3, 1) := by decide +kernel
theorem dX8_speed_27 : decode cX8_speed 27 = .ok (.ifCond .ne 6, 3) := by decide +kernel
theorem dX8_speed_30 : decode cX8_speed 30 = .ok (.ldc 45, 2) := by decide +kernel
theorem dX8_speed_32 : decode cX8_speed 32 = .ok (.ireturn, 1) := by decide +kernel
theorem dX8_speed_33 : decode cX8_speed 33 = .ok (.aload_n 0, 1) := by decide +kernel
theorem dX8_speed_34 : decode cX8_speed 34 = .ok (.iload_n 1, 1) := by decide +kernel
theorem dX8_speed_35 : decode cX8_speed 35 = .ok (.iload_n 2, 1) := by decide +kernel
theorem dX8_speed_36 : decode cX8_speed 36 = .ok (.iconst 0, 1) := by decide +kernel
theorem dX8_speed_37 : decode cX8_speed 37 = .ok (.invokevirtual 150, 3) := by decide +kernel
theorem dX8_speed_40 : decode cX8_speed 40 = .ok (.istore 4, 2) := by decide +kernel
theorem dX8_speed_42 : decode cX8_speed 42 = .ok (.iload 4, 2) := by decide +kernel
theorem dX8_speed_44 : decode cX8_speed 44 = .ok (.ldc 49, 2) := by decide +kernel
theorem dX8_speed_46 : decode cX8_speed 46 = .ok (.if_icmp .ne 8, 3) := by decide +kernel
theorem dX8_speed_49 : decode cX8_speed 49 = .ok (.ldc 120, 2) := by decide +kernel
theorem dX8_speed_51 : decode cX8_speed 51 = .ok (.goto 10, 3) := by decide +kernel
theorem dX8_speed_54 : decode cX8_speed 54 = .ok (.bipush 100, 2) := by decide +kernel
theorem dX8_speed_56 : decode cX8_speed 56 = .ok (.iload 4, 2) := by decide +kernel
theorem dX8_speed_58 : decode cX8_speed 58 = .ok (.imul, 1) := by decide +kernel
theorem dX8_speed_59 : decode cX8_speed 59 = .ok (.iload_n 3, 1) := by decide +kernel
theorem dX8_speed_60 : decode cX8_speed 60 = .ok (.idiv, 1) := by decide +kernel
theorem dX8_speed_61 : decode cX8_speed 61 = .ok (.ireturn, 1) := by decide +kernel
theorem dX8_slantOf_0 : decode cX8_slantOf 0 = .ok (.aload_n 0, 1) := by decide +kernel
theorem dX8_slantOf_1 : decode cX8_slantOf 1 = .ok (.invokevirtual 136, 3) := by decide +kernel
theorem dX8_slantOf_4 : decode cX8_slantOf 4 = .ok (.iconst 0, 1) := by decide +kernel
theorem dX8_slantOf_5 : decode cX8_slantOf 5 = .ok (.istore_n 2, 1) := by decide +kernel
theorem dX8_slantOf_6 : decode cX8_slantOf 6 = .ok (.iload_n 2, 1) := by decide +kernel
theorem dX8_slantOf_7 : decode cX8_slantOf 7 = .ok (.aload_n 0, 1) := by decide +kernel
theorem dX8_slantOf_8 : decode cX8_slantOf 8 = .ok (.getfield 7, 3) := by decide +kernel
theorem dX8_slantOf_11 : decode cX8_slantOf 11 = .ok (.iconst 0, 1) := by decide +kernel
theorem dX8_slantOf_12 : decode cX8_slantOf 12 = .ok (.iaload, 1) := by decide +kernel
theorem dX8_slantOf_13 : decode cX8_slantOf 13 = .ok (.iconst 1, 1) := by decide +kernel
theorem dX8_slantOf_14 : decode cX8_slantOf 14 = .ok (.isub, 1) := by decide +kernel
theorem dX8_slantOf_15 : decode cX8_slantOf 15 = .ok (.if_icmp .ge 31, 3) := by decide +kernel
theorem dX8_slantOf_18 : decode cX8_slantOf 18 = .ok (.aload_n 0, 1) := by decide +kernel
theorem dX8_slantOf_19 : decode cX8_slantOf 19 = .ok (.aload_n 0, 1) := by decide +kernel
theorem dX8_slantOf_20 : decode cX8_slantOf 20 = .ok (.iload_n 1, 1) := by decide +kernel
theorem dX8_slantOf_21 : decode cX8_slantOf 21 = .ok (.iload_n 2, 1) := by decide +kernel
theorem dX8_slantOf_22 : decode cX8_slantOf 22 = .ok (.invokevirtual 117, 3) := by decide +kernel
theorem dX8_slantOf_25 : decode cX8_slantOf 25 = .ok (.aload_n 0, 1) := by decide +kernel
theorem dX8_slantOf_26 : decode cX8_slantOf 26 = .ok (.iload_n 1, 1) := by decide +kernel
theorem dX8_slantOf_27 : decode cX8_slantOf 27 = .ok (.iload_n 2, 1) := by decide +kernel
theorem dX8_slantOf_28 : decode cX8_slantOf 28 = .ok (.iconst 1, 1) := by decide +kernel
theorem dX8_slantOf_29 : decode cX8_slantOf 29 = .ok (.iadd, 1) := by decide +kernel
theorem dX8_slantOf_30 : decode cX8_slantOf 30 = .ok (.invokevirtual 117, 3) := by decide +kernel
theorem dX8_slantOf_33 : decode cX8_slantOf 33 = .ok (.invokestatic 127, 3) := by decide +kernel
theorem dX8_slantOf_36 : decode cX8_slantOf 36 = .ok (.iconst 1, 1) := by decide +kernel
theorem dX8_slantOf_37 : decode cX8_slantOf 37 = .ok (.invokevirtual 142, 3) := by decide +kernel
theorem dX8_slantOf_40 : decode cX8_slantOf 40 = .ok (.iinc 2 1, 3) := by decide +kernel
theorem dX8_slantOf_43 : decode cX8_slantOf 43 = .ok (.goto (-37), 3) := by decide +kernel
theorem dX8_slantOf_46 : decode cX8_slantOf 46 = .ok (.aload_n 0, 1) := by decide +kernel
theorem dX8_slantOf_47 : decode cX8_slantOf 47 = .ok (.invokevirtual 146, 3) := by decide +kernel
theorem dX8_slantOf_50 : decode cX8_slantOf 50 = .ok (.ireturn, 1) := by decide +kernel
theorem dX8_slant_0 : decode cX8_slant 0 = .ok (.aload_n 0, 1) := by decide +kernel
theorem dX8_slant_1 : decode cX8_slant 1 = .ok (.iload_n 1, 1) := by decide +kernel
theorem dX8_slant_2 : decode cX8_slant 2 = .ok (.invokevirtual 97, 3) := by decide +kernel
theorem dX8_slant_5 : decode cX8_slant 5 = .ok (.ifCond .ne 6, 3) := by decide +kernel
theorem dX8_slant_8 : decode cX8_slant 8 = .ok (.ldc 44, 2) := by decide +kernel
theorem dX8_slant_10 : decode cX8_slant 10 = .ok (.ireturn, 1) := by decide +kernel
theorem dX8_slant_11 : decode cX8_slant 11 = .ok (.aload_n 0, 1) := by decide +kernel
theorem dX8_slant_12 : decode cX8_slant 12 = .ok (.iload_n 1, 1) := by decide +kernel
theorem dX8_slant_13 : decode cX8_slant 13 = .ok (.invokevirtual 158, 3) := by decide +kernel
theorem dX8_slant_16 : decode cX8_slant 16 = .ok (.istore_n 2, 1) := by decide +kernel
theorem dX8_slant_17 : decode cX8_slant 17 = .ok (.iload_n 2, 1) := by decide +kernel
theorem dX8_slant_18 : decode cX8_slant 18 = .ok (.ldc 49, 2) := by decide +kernel
theorem dX8_slant_20 : decode cX8_slant 20 = .ok (.if_icmp .ne 8, 3) := by decide +kernel
theorem dX8_slant_23 : decode cX8_slant 23 = .ok (.ldc 120, 2) := by decide +kernel
theorem dX8_slant_25 : decode cX8_slant 25 = .ok (.goto 4, 3) := by decide +kernel
theorem dX8_slant_28 : decode cX8_slant 28 = .ok (.iload_n 2, 1) := by decide +kernel
theorem dX8_slant_29 : decode cX8_slant 29 = .ok (.ireturn, 1) := by decide +kernel
theorem dX8_slantSpeed_0 : decode cX8_slantSpeed 0 = .ok (.aload_n 0, 1) := by decide +kernel
theorem dX8_slantSpeed_1 : decode cX8_slantSpeed 1 = .ok (.iload_n 1, 1) := by decide +kernel
theorem dX8_slantSpeed_2 : decode cX8_slantSpeed 2 = .ok (.invokevirtual 97, 3) := by decide +kernel
theorem dX8_slantSpeed_5 : decode cX8_slantSpeed 5 = .ok (.ifCond .ne 6, 3) := by decide +kernel
theorem dX8_slantSpeed_8 : decode cX8_slantSpeed 8 = .ok (.ldc 44, 2) := by decide +kernel
theorem dX8_slantSpeed_10 : decode cX8_slantSpeed 10 = .ok (.ireturn, 1) := by decide +kernel
theorem dX8_slantSpeed_11 : decode cX8_slantSpeed 11 = .ok (.aload_n 0, 1) := by decide +kernel
theorem dX8_slantSpeed_12 : decode cX8_slantSpeed 12 = .ok (.getfield 7, 3) := by decide +kernel
theorem dX8_slantSpeed_15 : decode cX8_slantSpeed 15 = .ok (.iconst 2, 1) := by decide +kernel
theorem dX8_slantSpeed_16 : decode cX8_slantSpeed 16 = .ok (.iaload, 1) := by decide +kernel
theorem dX8_slantSpeed_17 : decode cX8_slantSpeed 17 = .ok (.ifCond .ne 6, 3) := by decide +kernel
theorem dX8_slantSpeed_20 : decode cX8_slantSpeed 20 = .ok (.ldc 45, 2) := by decide +kernel
theorem dX8_slantSpeed_22 : decode cX8_slantSpeed 22 = .ok (.ireturn, 1) := by decide +kernel
theorem dX8_slantSpeed_23 : decode cX8_slantSpeed 23 = .ok (.aload_n 0, 1) := by decide +kernel
theorem dX8_slantSpeed_24 : decode cX8_slantSpeed 24 = .ok (.iload_n 1, 1) := by decide +kernel
theorem dX8_slantSpeed_25 : decode cX8_slantSpeed 25 = .ok (.invokevirtual 158, 3) := by decide +kernel
theorem dX8_slantSpeed_28 : decode cX8_slantSpeed 28 = .ok (.istore_n 2, 1) := by decide +kernel
theorem dX8_slantSpeed_29 : decode cX8_slantSpeed 29 = .ok (.iload_n 2, 1) := by decide +kernel
theorem dX8_slantSpeed_30 : decode cX8_slantSpeed 30 = .ok (.ldc 49, 2) := by decide +kernel
theorem dX8_slantSpeed_32 : decode cX8_slantSpeed 32 = .ok (.if_icmp .ne 8, 3) := by decide +kernel
theorem dX8_slantSpeed_35 : decode cX8_slantSpeed 35 = .ok (.ldc 120, 2) := by decide +kernel
theorem dX8_slantSpeed_37 : decode cX8_slantSpeed 37 = .ok (.goto 14, 3) := by decide +kernel
theorem dX8_slantSpeed_40 : decode cX8_slantSpeed 40 = .ok (.bipush 100, 2) := by decide +kernel
theorem dX8_slantSpeed_42 : decode cX8_slantSpeed 42 = .ok (.iload_n 2, 1) := by decide +kernel
theorem dX8_slantSpeed_43 : decode cX8_slantSpeed 43 = .ok (.imul, 1) := by decide +kernel
theorem dX8_slantSpeed_44 : decode cX8_slantSpeed 44 = .ok (.aload_n 0, 1) := by decide +kernel
theorem dX8_slantSpeed_45 : decode cX8_slantSpeed 45 = .ok (.getfield 7, 3) := by decide +kernel
theorem dX8_slantSpeed_48 : decode cX8_slantSpeed 48 = .ok (.iconst 2, 1) := by decide +kernel
theorem dX8_slantSpeed_49 : decode cX8_slantSpeed 49 = .ok (.iaload, 1) := by decide +kernel
theorem dX8_slantSpeed_50 : decode cX8_slantSpeed 50 = .ok (.idiv, 1) := by decide +kernel
theorem dX8_slantSpeed_51 : decode cX8_slantSpeed 51 = .ok (.ireturn, 1) := by decide +kernel
theorem dX8_weighed_0 : decode cX8_weighed 0 = .ok (.aload_n 0, 1) := by decide +kernel
theorem dX8_weighed_1 : decode cX8_weighed 1 = .ok (.iload_n 1, 1) := by decide +kernel
theorem dX8_weighed_2 : decode cX8_weighed 2 = .ok (.iload_n 2, 1) := by decide +kernel
theorem dX8_weighed_3 : decode cX8_weighed 3 = .ok (.invokevirtual 130, 3) := by decide +kernel
theorem dX8_weighed_6 : decode cX8_weighed 6 = .ok (.ifCond .ne 6, 3) := by decide +kernel
theorem dX8_weighed_9 : decode cX8_weighed 9 = .ok (.ldc 44, 2) := by decide +kernel
theorem dX8_weighed_11 : decode cX8_weighed 11 = .ok (.ireturn, 1) := by decide +kernel
theorem dX8_weighed_12 : decode cX8_weighed 12 = .ok (.aload_n 0, 1) := by decide +kernel
theorem dX8_weighed_13 : decode cX8_weighed 13 = .ok (.iload_n 1, 1) := by decide +kernel
theorem dX8_weighed_14 : decode cX8_weighed 14 = .ok (.iload_n 2, 1) := by decide +kernel
theorem dX8_weighed_15 : decode cX8_weighed 15 = .ok (.iconst 1, 1) := by decide +kernel
theorem dX8_weighed_16 : decode cX8_weighed 16 = .ok (.invokevirtual 150, 3) := by decide +kernel
theorem dX8_weighed_19 : decode cX8_weighed 19 = .ok (.istore_n 3, 1) := by decide +kernel
theorem dX8_weighed_20 : decode cX8_weighed 20 = .ok (.iload_n 3, 1) := by decide +kernel
theorem dX8_weighed_21 : decode cX8_weighed 21 = .ok (.ldc 49, 2) := by decide +kernel
theorem dX8_weighed_23 : decode cX8_weighed 23 = .ok (.if_icmp .ne 8, 3) := by decide +kernel
theorem dX8_weighed_26 : decode cX8_weighed 26 = .ok (.ldc 120, 2) := by decide +kernel
theorem dX8_weighed_28 : decode cX8_weighed 28 = .ok (.goto 4, 3) := by decide +kernel
theorem dX8_weighed_31 : decode cX8_weighed 31 = .ok (.iload_n 3, 1) := by decide +kernel
theorem dX8_weighed_32 : decode cX8_weighed 32 = .ok (.ireturn, 1) := by decide +kernel
theorem dX8_judge_0 : decode cX8_judge 0 = .ok (.aload_n 0, 1) := by decide +kernel
theorem dX8_judge_1 : decode cX8_judge 1 = .ok (.iload_n 1, 1) := by decide +kernel
theorem dX8_judge_2 : decode cX8_judge 2 = .ok (.iload_n 2, 1) := by decide +kernel
theorem dX8_judge_3 : decode cX8_judge 3 = .ok (.invokevirtual 130, 3) := by decide +kernel
theorem dX8_judge_6 : decode cX8_judge 6 = .ok (.ifCond .ne 6, 3) := by decide +kernel
theorem dX8_judge_9 : decode cX8_judge 9 = .ok (.ldc 44, 2) := by decide +kernel
theorem dX8_judge_11 : decode cX8_judge 11 = .ok (.ireturn, 1) := by decide +kernel
theorem dX8_judge_12 : decode cX8_judge 12 = .ok (.aload_n 0, 1) := by decide +kernel
theorem dX8_judge_13 : decode cX8_judge 13 = .ok (.iload_n 1, 1) := by decide +kernel
theorem dX8_judge_14 : decode cX8_judge 14 = .ok (.iload_n 2, 1) := by decide +kernel
theorem dX8_judge_15 : decode cX8_judge 15 = .ok (.iconst 0, 1) := by decide +kernel
theorem dX8_judge_16 : decode cX8_judge 16 = .ok (.invokevirtual 150, 3) := by decide +kernel
theorem dX8_judge_19 : decode cX8_judge 19 = .ok (.istore_n 3, 1) := by decide +kernel
theorem dX8_judge_20 : decode cX8_judge 20 = .ok (.iload_n 3, 1) := by decide +kernel
theorem dX8_judge_21 : decode cX8_judge 21 = .ok (.ldc 49, 2) := by decide +kernel
theorem dX8_judge_23 : decode cX8_judge 23 = .ok (.if_icmp .ne 6, 3) := by decide +kernel
theorem dX8_judge_26 : decode cX8_judge 26 = .ok (.ldc 120, 2) := by decide +kernel
theorem dX8_judge_28 : decode cX8_judge 28 = .ok (.ireturn, 1) := by decide +kernel
theorem dX8_judge_29 : decode cX8_judge 29 = .ok (.aload_n 0, 1) := by decide +kernel
theorem dX8_judge_30 : decode cX8_judge 30 = .ok (.iload_n 1, 1) := by decide +kernel
theorem dX8_judge_31 : decode cX8_judge 31 = .ok (.iload_n 2, 1) := by decide +kernel
theorem dX8_judge_32 : decode cX8_judge 32 = .ok (.iload_n 3, 1) := by decide +kernel
theorem dX8_judge_33 : decode cX8_judge 33 = .ok (.iconst 1, 1) := by decide +kernel
theorem dX8_judge_34 : decode cX8_judge 34 = .ok (.invokevirtual 154, 3) := by decide +kernel
theorem dX8_judge_37 : decode cX8_judge 37 = .ok (.istore 4, 2) := by decide +kernel
theorem dX8_judge_39 : decode cX8_judge 39 = .ok (.aload_n 0, 1) := by decide +kernel
theorem dX8_judge_40 : decode cX8_judge 40 = .ok (.iload_n 1, 1) := by decide +kernel
theorem dX8_judge_41 : decode cX8_judge 41 = .ok (.iload_n 2, 1) := by decide +kernel
theorem dX8_judge_42 : decode cX8_judge 42 = .ok (.iload_n 3, 1) := by decide +kernel
theorem dX8_judge_43 : decode cX8_judge 43 = .ok (.iconst 0, 1) := by decide +kernel
theorem dX8_judge_44 : decode cX8_judge 44 = .ok (.invokevirtual 154, 3) := by decide +kernel
theorem dX8_judge_47 : decode cX8_judge 47 = .ok (.istore 5, 2) := by decide +kernel
theorem dX8_judge_49 : decode cX8_judge 49 = .ok (.aload_n 0, 1) := by decide +kernel
theorem dX8_judge_50 : decode cX8_judge 50 = .ok (.invokevirtual 46, 3) := by decide +kernel
theorem dX8_judge_53 : decode cX8_judge 53 = .ok (.iconst 0, 1) := by decide +kernel
theorem dX8_judge_54 : decode cX8_judge 54 = .ok (.istore 6, 2) := by decide +kernel
theorem dX8_judge_56 : decode cX8_judge 56 = .ok (.iload 6, 2) := by decide +kernel
theorem dX8_judge_58 : decode cX8_judge 58 = .ok (.bipush 10, 2) := by decide +kernel
theorem dX8_judge_60 : decode cX8_judge 60 = .ok (.if_icmp .ge 51, 3) := by decide +kernel
theorem dX8_judge_63 : decode cX8_judge 63 = .ok (.aload_n 0, 1) := by decide +kernel
theorem dX8_judge_64 : decode cX8_judge 64 = .ok (.getfield 7, 3) := by decide +kernel
theorem dX8_judge_67 : decode cX8_judge 67 = .ok (.sipush 847, 3) := by decide +kernel
theorem dX8_judge_70 : decode cX8_judge 70 = .ok (.iload 6, 2) := by decide +kernel
theorem dX8_judge_72 : decode cX8_judge 72 = .ok (.iadd, 1) := by decide +kernel
theorem dX8_judge_73 : decode cX8_judge 73 = .ok (.dup2, 1) := by decide +kernel
theorem dX8_judge_74 : decode cX8_judge 74 = .ok (.iaload, 1) := by decide +kernel
theorem dX8_judge_75 : decode cX8_judge 75 = .ok (.iload 4, 2) := by decide +kernel
theorem dX8_judge_77 : decode cX8_judge 77 = .ok (.iload 6, 2) := by decide +kernel
theorem dX8_judge_79 : decode cX8_judge 79 = .ok (.ishr, 1) := by decide +kernel
theorem dX8_judge_80 : decode cX8_judge 80 = .ok (.iconst 1, 1) := by decide +kernel
theorem dX8_judge_81 : decode cX8_judge 81 = .ok (.iand, 1) := by decide +kernel
theorem dX8_judge_82 : decode cX8_judge 82 = .ok (.iadd, 1) := by decide +kernel
theorem dX8_judge_83 : decode cX8_judge 83 = .ok (.iastore, 1) := by decide +kernel
theorem dX8_judge_84 : decode cX8_judge 84 = .ok (.aload_n 0, 1) := by decide +kernel
theorem dX8_judge_85 : decode cX8_judge 85 = .ok (.getfield 7, 3) := by decide +kernel
theorem dX8_judge_88 : decode cX8_judge 88 = .ok (.sipush 857, 3) := by decide +kernel
theorem dX8_judge_91 : decode cX8_judge 91 = .ok (.iload 6, 2) := by decide +kernel
theorem dX8_judge_93 : decode cX8_judge 93 = .ok (.iadd, 1) := by decide +kernel
theorem dX8_judge_94 : decode cX8_judge 94 = .ok (.dup2, 1) := by decide +kernel
theorem dX8_judge_95 : decode cX8_judge 95 = .ok (.iaload, 1) := by decide +kernel
theorem dX8_judge_96 : decode cX8_judge 96 = .ok (.iload 5, 2) := by decide +kernel
theorem dX8_judge_98 : decode cX8_judge 98 = .ok (.iload 6, 2) := by decide +kernel
theorem dX8_judge_100 : decode cX8_judge 100 = .ok (.ishr, 1) := by decide +kernel
theorem dX8_judge_101 : decode cX8_judge 101 = .ok (.iconst 1, 1) := by decide +kernel
theorem dX8_judge_102 : decode cX8_judge 102 = .ok (.iand, 1) := by decide +kernel
theorem dX8_judge_103 : decode cX8_judge 103 = .ok (.iadd, 1) := by decide +kernel
theorem dX8_judge_104 : decode cX8_judge 104 = .ok (.iastore, 1) := by decide +kernel
theorem dX8_judge_105 : decode cX8_judge 105 = .ok (.iinc 6 1, 3) := by decide +kernel
theorem dX8_judge_108 : decode cX8_judge 108 = .ok (.goto (-52), 3) := by decide +kernel
theorem dX8_judge_111 : decode cX8_judge 111 = .ok (.iload 4, 2) := by decide +kernel
theorem dX8_judge_113 : decode cX8_judge 113 = .ok (.invokestatic 67, 3) := by decide +kernel
theorem dX8_judge_116 : decode cX8_judge 116 = .ok (.iload 5, 2) := by decide +kernel
theorem dX8_judge_118 : decode cX8_judge 118 = .ok (.invokestatic 67, 3) := by decide +kernel
theorem dX8_judge_121 : decode cX8_judge 121 = .ok (.iadd, 1) := by decide +kernel
theorem dX8_judge_122 : decode cX8_judge 122 = .ok (.ireturn, 1) := by decide +kernel
theorem dX8_rowOf_0 : decode cX8_rowOf 0 = .ok (.iload_n 1, 1) := by decide +kernel
theorem dX8_rowOf_1 : decode cX8_rowOf 1 = .ok (.iconst 0, 1) := by decide +kernel
theorem dX8_rowOf_2 : decode cX8_rowOf 2 = .ok (.bipush 9, 2) := by decide +kernel
theorem dX8_rowOf_4 : decode cX8_rowOf 4 = .ok (.invokestatic 36, 3) := by decide +kernel
theorem dX8_rowOf_7 : decode cX8_rowOf 7 = .ok (.ifCond .ne 6, 3) := by decide +kernel
theorem dX8_rowOf_10 : decode cX8_rowOf 10 = .ok (.ldc 44, 2) := by decide +kernel
theorem dX8_rowOf_12 : decode cX8_rowOf 12 = .ok (.ireturn, 1) := by decide +kernel
theorem dX8_rowOf_13 : decode cX8_rowOf 13 = .ok (.iload_n 2, 1) := by decide +kernel
theorem dX8_rowOf_14 : decode cX8_rowOf 14 = .ok (.tableswitch 70 0 3 #[30, 42, 53, 64], 30) := by decide +kernel
theorem dX8_rowOf_44 : decode cX8_rowOf 44 = .ok (.aload_n 0, 1) := by decide +kernel
theorem dX8_rowOf_45 : decode cX8_rowOf 45 = .ok (.getfield 7, 3) := by decide +kernel
theorem dX8_rowOf_48 : decode cX8_rowOf 48 = .ok (.bipush 34, 2) := by decide +kernel
theorem dX8_rowOf_50 : decode cX8_rowOf 50 = .ok (.iaload, 1) := by decide +kernel
theorem dX8_rowOf_51 : decode cX8_rowOf 51 = .ok (.iload_n 1, 1) := by decide +kernel
theorem dX8_rowOf_52 : decode cX8_rowOf 52 = .ok (.ishr, 1) := by decide +kernel
theorem dX8_rowOf_53 : decode cX8_rowOf 53 = .ok (.iconst 1, 1) := by decide +kernel
theorem dX8_rowOf_54 : decode cX8_rowOf 54 = .ok (.iand, 1) := by decide +kernel
theorem dX8_rowOf_55 : decode cX8_rowOf 55 = .ok (.ireturn, 1) := by decide +kernel
theorem dX8_rowOf_56 : decode cX8_rowOf 56 = .ok (.aload_n 0, 1) := by decide +kernel
theorem dX8_rowOf_57 : decode cX8_rowOf 57 = .ok (.getfield 7, 3) := by decide +kernel
theorem dX8_rowOf_60 : decode cX8_rowOf 60 = .ok (.sipush 847, 3) := by decide +kernel
theorem dX8_rowOf_63 : decode cX8_rowOf 63 = .ok (.iload_n 1, 1) := by decide +kernel
theorem dX8_rowOf_64 : decode cX8_rowOf 64 = .ok (.iadd, 1) := by decide +kernel
theorem dX8_rowOf_65 : decode cX8_rowOf 65 = .ok (.iaload, 1) := by decide +kernel
theorem dX8_rowOf_66 : decode cX8_rowOf 66 = .ok (.ireturn, 1) := by decide +kernel
theorem dX8_rowOf_67 : decode cX8_rowOf 67 = .ok (.aload_n 0, 1) := by decide +kernel
theorem dX8_rowOf_68 : decode cX8_rowOf 68 = .ok (.getfield 7, 3) := by decide +kernel
theorem dX8_rowOf_71 : decode cX8_rowOf 71 = .ok (.sipush 857, 3) := by decide +kernel
theorem dX8_rowOf_74 : decode cX8_rowOf 74 = .ok (.iload_n 1, 1) := by decide +kernel
theorem dX8_rowOf_75 : decode cX8_rowOf 75 = .ok (.iadd, 1) := by decide +kernel
theorem dX8_rowOf_76 : decode cX8_rowOf 76 = .ok (.iaload, 1) := by decide +kernel
theorem dX8_rowOf_77 : decode cX8_rowOf 77 = .ok (.ireturn, 1) := by decide +kernel
theorem dX8_rowOf_78 : decode cX8_rowOf 78 = .ok (.aload_n 0, 1) := by decide +kernel
theorem dX8_rowOf_79 : decode cX8_rowOf 79 = .ok (.iload_n 1, 1) := by decide +kernel
theorem dX8_rowOf_80 : decode cX8_rowOf 80 = .ok (.invokevirtual 139, 3) := by decide +kernel
theorem dX8_rowOf_83 : decode cX8_rowOf 83 = .ok (.ireturn, 1) := by decide +kernel
theorem dX8_rowOf_84 : decode cX8_rowOf 84 = .ok (.ldc 44, 2) := by decide +kernel
theorem dX8_rowOf_86 : decode cX8_rowOf 86 = .ok (.ireturn, 1) := by decide +kernel
theorem dX8_edgesAt_0 : decode cX8_edgesAt 0 = .ok (.iconst 0, 1) := by decide +kernel
theorem dX8_edgesAt_1 : decode cX8_edgesAt 1 = .ok (.istore_n 3, 1) := by decide +kernel
theorem dX8_edgesAt_2 : decode cX8_edgesAt 2 = .ok (.iconst 1, 1) := by decide +kernel
theorem dX8_edgesAt_3 : decode cX8_edgesAt 3 = .ok (.istore 4, 2) := by decide +kernel
theorem dX8_edgesAt_5 : decode cX8_edgesAt 5 = .ok (.iload 4, 2) := by decide +kernel
theorem dX8_edgesAt_7 : decode cX8_edgesAt 7 = .ok (.aload_n 0, 1) := by decide +kernel
theorem dX8_edgesAt_8 : decode cX8_edgesAt 8 = .ok (.getfield 7, 3) := by decide +kernel
theorem dX8_edgesAt_11 : decode cX8_edgesAt 11 = .ok (.iconst 1, 1) := by decide +kernel
theorem dX8_edgesAt_12 : decode cX8_edgesAt 12 = .ok (.iaload, 1) := by decide +kernel
theorem dX8_edgesAt_13 : decode cX8_edgesAt 13 = .ok (.if_icmp .ge 75, 3) := by decide +kernel
theorem dX8_edgesAt_16 : decode cX8_edgesAt 16 = .ok (.aload_n 0, 1) := by decide +kernel
theorem dX8_edgesAt_17 : decode cX8_edgesAt 17 = .ok (.getfield 7, 3) := by decide +kernel
theorem dX8_edgesAt_20 : decode cX8_edgesAt 20 = .ok (.bipush 34, 2) := by decide +kernel
theorem dX8_edgesAt_22 : decode cX8_edgesAt 22 = .ok (.iaload, 1) := by decide +kernel
theorem dX8_edgesAt_23 : decode cX8_edgesAt 23 = .ok (.iload_n 1, 1) := by decide +kernel
theorem dX8_edgesAt_24 : decode cX8_edgesAt 24 = .ok (.invokestatic 104, 3) := by decide +kernel
theorem dX8_edgesAt_27 : decode cX8_edgesAt 27 = .ok (.ifCond .ne 61, 3) := by decide +kernel
theorem dX8_edgesAt_30 : decode cX8_edgesAt 30 = .ok (.aload_n 0, 1) := by decide +kernel
theorem dX8_edgesAt_31 : decode cX8_edgesAt 31 = .ok (.getfield 7, 3) := by decide +kernel
theorem dX8_edgesAt_34 : decode cX8_edgesAt 34 = .ok (.iload_n 1, 1) := by decide +kernel
theorem dX8_edgesAt_35 : decode cX8_edgesAt 35 = .ok (.iload 4, 2) := by decide +kernel
theorem dX8_edgesAt_37 : decode cX8_edgesAt 37 = .ok (.iload_n 2, 1) := by decide +kernel
theorem dX8_edgesAt_38 : decode cX8_edgesAt 38 = .ok (.invokestatic 85, 3) := by decide +kernel
theorem dX8_edgesAt_41 : decode cX8_edgesAt 41 = .ok (.aload_n 0, 1) := by decide +kernel
theorem dX8_edgesAt_42 : decode cX8_edgesAt 42 = .ok (.getfield 7, 3) := by decide +kernel
theorem dX8_edgesAt_45 : decode cX8_edgesAt 45 = .ok (.iload_n 1, 1) := by decide +kernel
theorem dX8_edgesAt_46 : decode cX8_edgesAt 46 = .ok (.iload 4, 2) := by decide +kernel
theorem dX8_edgesAt_48 : decode cX8_edgesAt 48 = .ok (.iconst 1, 1) := by decide +kernel
theorem dX8_edgesAt_49 : decode cX8_edgesAt 49 = .ok (.isub, 1) := by decide +kernel
theorem dX8_edgesAt_50 : decode cX8_edgesAt 50 = .ok (.iload_n 2, 1) := by decide +kernel
theorem dX8_edgesAt_51 : decode cX8_edgesAt 51 = .ok (.invokestatic 85, 3) := by decide +kernel
theorem dX8_edgesAt_54 : decode cX8_edgesAt 54 = .ok (.isub, 1) := by decide +kernel
theorem dX8_edgesAt_55 : decode cX8_edgesAt 55 = .ok (.invokestatic 124, 3) := by decide +kernel
theorem dX8_edgesAt_58 : decode cX8_edgesAt 58 = .ok (.istore 5, 2) := by decide +kernel
theorem dX8_edgesAt_60 : decode cX8_edgesAt 60 = .ok (.iload_n 3, 1) := by decide +kernel
theorem dX8_edgesAt_61 : decode cX8_edgesAt 61 = .ok (.iload 5, 2) := by decide +kernel
theorem dX8_edgesAt_63 : decode cX8_edgesAt 63 = .ok (.aload_n 0, 1) := by decide +kernel
theorem dX8_edgesAt_64 : decode cX8_edgesAt 64 = .ok (.getfield 7, 3) := by decide +kernel
theorem dX8_edgesAt_67 : decode cX8_edgesAt 67 = .ok (.iconst 3, 1) := by decide +kernel
theorem dX8_edgesAt_68 : decode cX8_edgesAt 68 = .ok (.iaload, 1) := by decide +kernel
theorem dX8_edgesAt_69 : decode cX8_edgesAt 69 = .ok (.if_icmp .lt 10, 3) := by decide +kernel
theorem dX8_edgesAt_72 : decode cX8_edgesAt 72 = .ok (.iconst 1, 1) := by decide +kernel
theorem dX8_edgesAt_73 : decode cX8_edgesAt 73 = .ok (.iload 4, 2) := by decide +kernel
theorem dX8_edgesAt_75 : decode cX8_edgesAt 75 = .ok (.ishl, 1) := by decide +kernel
theorem dX8_edgesAt_76 : decode cX8_edgesAt 76 = .ok (.goto 4, 3) := by decide +kernel
theorem dX8_edgesAt_79 : decode cX8_edgesAt 79 = .ok (.iconst 0, 1) := by decide +kernel
theorem dX8_edgesAt_80 : decode cX8_edgesAt 80 = .ok (.ior, 1) := by decide +kernel
theorem dX8_edgesAt_81 : decode cX8_edgesAt 81 = .ok (.istore_n 3, 1) := by decide +kernel
theorem dX8_edgesAt_82 : decode cX8_edgesAt 82 = .ok (.iinc 4 1, 3) := by decide +kernel
theorem dX8_edgesAt_85 : decode cX8_edgesAt 85 = .ok (.goto (-80), 3) := by decide +kernel
theorem dX8_edgesAt_88 : decode cX8_edgesAt 88 = .ok (.iload_n 3, 1) := by decide +kernel
theorem dX8_edgesAt_89 : decode cX8_edgesAt 89 = .ok (.ireturn, 1) := by decide +kernel
theorem dX8_bestWait_0 : decode cX8_bestWait 0 = .ok (.aload_n 0, 1) := by decide +kernel
theorem dX8_bestWait_1 : decode cX8_bestWait 1 = .ok (.iload_n 1, 1) := by decide +kernel
theorem dX8_bestWait_2 : decode cX8_bestWait 2 = .ok (.invokevirtual 97, 3) := by decide +kernel
theorem dX8_bestWait_5 : decode cX8_bestWait 5 = .ok (.ifCond .eq 12, 3) := by decide +kernel
theorem dX8_bestWait_8 : decode cX8_bestWait 8 = .ok (.iload_n 2, 1) := by decide +kernel
theorem dX8_bestWait_9 : decode cX8_bestWait 9 = .ok (.iconst 0, 1) := by decide +kernel
theorem dX8_bestWait_10 : decode cX8_bestWait 10 = .ok (.iconst 1, 1) := by decide +kernel
theorem dX8_bestWait_11 : decode cX8_bestWait 11 = .ok (.invokestatic 36, 3) := by decide +kernel
theorem dX8_bestWait_14 : decode cX8_bestWait 14 = .ok (.ifCond .ne 6, 3) := by decide +kernel
theorem dX8_bestWait_17 : decode cX8_bestWait 17 = .ok (.ldc 44, 2) := by decide +kernel
theorem dX8_bestWait_19 : decode cX8_bestWait 19 = .ok (.ireturn, 1) := by decide +kernel
theorem dX8_bestWait_20 : decode cX8_bestWait 20 = .ok (.iconst 0, 1) := by decide +kernel
theorem dX8_bestWait_21 : decode cX8_bestWait 21 = .ok (.istore_n 3, 1) := by decide +kernel
theorem dX8_bestWait_22 : decode cX8_bestWait 22 = .ok (.iconst 0, 1) := by decide +kernel
theorem dX8_bestWait_23 : decode cX8_bestWait 23 = .ok (.istore 4, 2) := by decide +kernel
theorem dX8_bestWait_25 : decode cX8_bestWait 25 = .ok (.iconst 1, 1) := by decide +kernel
theorem dX8_bestWait_26 : decode cX8_bestWait 26 = .ok (.istore 5, 2) := by decide +kernel
theorem dX8_bestWait_28 : decode cX8_bestWait 28 = .ok (.iload 5, 2) := by decide +kernel
theorem dX8_bestWait_30 : decode cX8_bestWait 30 = .ok (.bipush 41, 2) := by decide +kernel
theorem dX8_bestWait_32 : decode cX8_bestWait 32 = .ok (.if_icmp .ge 121, 3) := by decide +kernel
theorem dX8_bestWait_35 : decode cX8_bestWait 35 = .ok (.aload_n 0, 1) := by decide +kernel
theorem dX8_bestWait_36 : decode cX8_bestWait 36 = .ok (.invokevirtual 136, 3) := by decide +kernel
theorem dX8_bestWait_39 : decode cX8_bestWait 39 = .ok (.iconst 0, 1) := by decide +kernel
theorem dX8_bestWait_40 : decode cX8_bestWait 40 = .ok (.istore 6, 2) := by decide +kernel
theorem dX8_bestWait_42 : decode cX8_bestWait 42 = .ok (.iload 6, 2) := by decide +kernel
theorem dX8_bestWait_44 : decode cX8_bestWait 44 = .ok (.aload_n 0, 1) := by decide +kernel
theorem dX8_bestWait_45 : decode cX8_bestWait 45 = .ok (.getfield 7, 3) := by decide +kernel
theorem dX8_bestWait_48 : decode cX8_bestWait 48 = .ok (.iconst 0, 1) := by decide +kernel
theorem dX8_bestWait_49 : decode cX8_bestWait 49 = .ok (.iaload, 1) := by decide +kernel
theorem dX8_bestWait_50 : decode cX8_bestWait 50 = .ok (.if_icmp .ge 54, 3) := by decide +kernel
theorem dX8_bestWait_53 : decode cX8_bestWait 53 = .ok (.aload_n 0, 1) := by decide +kernel
theorem dX8_bestWait_54 : decode cX8_bestWait 54 = .ok (.iload 6, 2) := by decide +kernel
theorem dX8_bestWait_56 : decode cX8_bestWait 56 = .ok (.aload_n 0, 1) := by decide +kernel
theorem dX8_bestWait_57 : decode cX8_bestWait 57 = .ok (.getfield 7, 3) := by decide +kernel
theorem dX8_bestWait_60 : decode cX8_bestWait 60 = .ok (.bipush 33, 2) := by decide +kernel
theorem dX8_bestWait_62 : decode cX8_bestWait 62 = .ok (.iaload, 1) := by decide +kernel
theorem dX8_bestWait_63 : decode cX8_bestWait 63 = .ok (.iload 5, 2) := by decide +kernel
theorem dX8_bestWait_65 : decode cX8_bestWait 65 = .ok (.iadd, 1) := by decide +kernel
theorem dX8_bestWait_66 : decode cX8_bestWait 66 = .ok (.iload 6, 2) := by decide +kernel
theorem dX8_bestWait_68 : decode cX8_bestWait 68 = .ok (.aload_n 0, 1) := by decide +kernel
theorem dX8_bestWait_69 : decode cX8_bestWait 69 = .ok (.getfield 7, 3) := by decide +kernel
theorem dX8_bestWait_72 : decode cX8_bestWait 72 = .ok (.iconst 2, 1) := by decide +kernel
theorem dX8_bestWait_73 : decode cX8_bestWait 73 = .ok (.iaload, 1) := by decide +kernel
theorem dX8_bestWait_74 : decode cX8_bestWait 74 = .ok (.imul, 1) := by decide +kernel
theorem dX8_bestWait_75 : decode cX8_bestWait 75 = .ok (.iadd, 1) := by decide +kernel
theorem dX8_bestWait_76 : decode cX8_bestWait 76 = .ok (.invokevirtual 161, 3) := by decide +kernel
theorem dX8_bestWait_79 : decode cX8_bestWait 79 = .ok (.istore 7, 2) := by decide +kernel
theorem dX8_bestWait_81 : decode cX8_bestWait 81 = .ok (.aload_n 0, 1) := by decide +kernel
theorem dX8_bestWait_82 : decode cX8_bestWait 82 = .ok (.aload_n 0, 1) := by decide +kernel
theorem dX8_bestWait_83 : decode cX8_bestWait 83 = .ok (.iload_n 1, 1) := by decide +kernel
theorem dX8_bestWait_84 : decode cX8_bestWait 84 = .ok (.iload 6, 2) := by decide +kernel
theorem dX8_bestWait_86 : decode cX8_bestWait 86 = .ok (.invokevirtual 117, 3) := by decide +kernel
theorem dX8_bestWait_89 : decode cX8_bestWait 89 = .ok (.iload 7, 2) := by decide +kernel
theorem dX8_bestWait_91 : decode cX8_bestWait 91 = .ok (.invokestatic 127, 3) := by decide +kernel
theorem dX8_bestWait_94 : decode cX8_bestWait 94 = .ok (.iconst 1, 1) := by decide +kernel
theorem dX8_bestWait_95 : decode cX8_bestWait 95 = .ok (.invokevirtual 142, 3) := by decide +kernel
theorem dX8_bestWait_98 : decode cX8_bestWait 98 = .ok (.iinc 6 1, 3) := by decide +kernel
theorem dX8_bestWait_101 : decode cX8_bestWait 101 = .ok (.goto (-59), 3) := by decide +kernel
theorem dX8_bestWait_104 : decode cX8_bestWait 104 = .ok (.aload_n 0, 1) := by decide +kernel
theorem dX8_bestWait_105 : decode cX8_bestWait 105 = .ok (.invokevirtual 146, 3) := by decide +kernel
theorem dX8_bestWait_108 : decode cX8_bestWait 108 = .ok (.istore 6, 2) := by decide +kernel
theorem dX8_bestWait_110 : decode cX8_bestWait 110 = .ok (.iload 6, 2) := by decide +kernel
theorem dX8_bestWait_112 : decode cX8_bestWait 112 = .ok (.ldc 49, 2) := by decide +kernel
theorem dX8_bestWait_114 : decode cX8_bestWait 114 = .ok (.if_icmp .eq 33, 3) := by decide +kernel
theorem dX8_bestWait_117 : decode cX8_bestWait 117 = .ok (.aload_n 0, 1) := by decide +kernel
theorem dX8_bestWait_118 : decode cX8_bestWait 118 = .ok (.getfield 22, 3) := by decide +kernel
theorem dX8_bestWait_121 : decode cX8_bestWait 121 = .ok (.iload 6, 2) := by decide +kernel
theorem dX8_bestWait_123 : decode cX8_bestWait 123 = .ok (.bipush 8, 2) := by decide +kernel
theorem dX8_bestWait_125 : decode cX8_bestWait 125 = .ok (.iadd, 1) := by decide +kernel
theorem dX8_bestWait_126 : decode cX8_bestWait 126 = .ok (.iaload, 1) := by decide +kernel
theorem dX8_bestWait_127 : decode cX8_bestWait 127 = .ok (.iload 4, 2) := by decide +kernel
theorem dX8_bestWait_129 : decode cX8_bestWait 129 = .ok (.if_icmp .le 18, 3) := by decide +kernel
theorem dX8_bestWait_132 : decode cX8_bestWait 132 = .ok (.iload 5, 2) := by decide +kernel
theorem dX8_bestWait_134 : decode cX8_bestWait 134 = .ok (.istore_n 3, 1) := by decide +kernel
theorem dX8_bestWait_135 : decode cX8_bestWait 135 = .ok (.aload_n 0, 1) := by decide +kernel
theorem dX8_bestWait_136 : decode cX8_bestWait 136 = .ok (.getfield 22, 3) := by decide +kernel
theorem dX8_bestWait_139 : decode cX8_bestWait 139 = .ok (.iload 6, 2) := by decide +kernel
theorem dX8_bestWait_141 : decode cX8_bestWait 141 = .ok (.bipush 8, 2) := by decide +kernel
theorem dX8_bestWait_143 : decode cX8_bestWait 143 = .ok (.iadd, 1) := by decide +kernel
theorem dX8_bestWait_144 : decode cX8_bestWait 144 = .ok (.iaload, 1) := by decide +kernel
theorem dX8_bestWait_145 : decode cX8_bestWait 145 = .ok (.istore 4, 2) := by decide +kernel
theorem dX8_bestWait_147 : decode cX8_bestWait 147 = .ok (.iinc 5 1, 3) := by decide +kernel
theorem dX8_bestWait_150 : decode cX8_bestWait 150 = .ok (.goto (-122), 3) := by decide +kernel
theorem dX8_bestWait_153 : decode cX8_bestWait 153 = .ok (.iload_n 3, 1) := by decide +kernel
theorem dX8_bestWait_154 : decode cX8_bestWait 154 = .ok (.ifCond .ne 8, 3) := by decide +kernel
theorem dX8_bestWait_157 : decode cX8_bestWait 157 = .ok (.ldc 120, 2) := by decide +kernel
theorem dX8_bestWait_159 : decode cX8_bestWait 159 = .ok (.goto 13, 3) := by decide +kernel
theorem dX8_bestWait_162 : decode cX8_bestWait 162 = .ok (.iload_n 2, 1) := by decide +kernel
theorem dX8_bestWait_163 : decode cX8_bestWait 163 = .ok (.ifCond .ne 7, 3) := by decide +kernel
theorem dX8_bestWait_166 : decode cX8_bestWait 166 = .ok (.iload_n 3, 1) := by decide +kernel
theorem dX8_bestWait_167 : decode cX8_bestWait 167 = .ok (.goto 5, 3) := by decide +kernel
theorem dX8_bestWait_170 : decode cX8_bestWait 170 = .ok (.iload 4, 2) := by decide +kernel
theorem dX8_bestWait_172 : decode cX8_bestWait 172 = .ok (.ireturn, 1) := by decide +kernel
theorem dX8_rowFits_0 : decode cX8_rowFits 0 = .ok (.aload_n 0, 1) := by decide +kernel
theorem dX8_rowFits_1 : decode cX8_rowFits 1 = .ok (.iload_n 2, 1) := by decide +kernel
theorem dX8_rowFits_2 : decode cX8_rowFits 2 = .ok (.iconst 0, 1) := by decide +kernel
theorem dX8_rowFits_3 : decode cX8_rowFits 3 = .ok (.invokevirtual 100, 3) := by decide +kernel
theorem dX8_rowFits_6 : decode cX8_rowFits 6 = .ok (.iload_n 3, 1) := by decide +kernel
theorem dX8_rowFits_7 : decode cX8_rowFits 7 = .ok (.aload_n 0, 1) := by decide +kernel
theorem dX8_rowFits_8 : decode cX8_rowFits 8 = .ok (.getfield 7, 3) := by decide +kernel
theorem dX8_rowFits_11 : decode cX8_rowFits 11 = .ok (.iconst 2, 1) := by decide +kernel
theorem dX8_rowFits_12 : decode cX8_rowFits 12 = .ok (.iaload, 1) := by decide +kernel
theorem dX8_rowFits_13 : decode cX8_rowFits 13 = .ok (.imul, 1) := by decide +kernel
theorem dX8_rowFits_14 : decode cX8_rowFits 14 = .ok (.iadd, 1) := by decide +kernel
theorem dX8_rowFits_15 : decode cX8_rowFits 15 = .ok (.istore 4, 2) := by decide +kernel
theorem dX8_rowFits_17 : decode cX8_rowFits 17 = .ok (.iconst 0, 1) := by decide +kernel
theorem dX8_rowFits_18 : decode cX8_rowFits 18 = .ok (.istore 5, 2) := by decide +kernel
theorem dX8_rowFits_20 : decode cX8_rowFits 20 = .ok (.iload 5, 2) := by decide +kernel
theorem dX8_rowFits_22 : decode cX8_rowFits 22 = .ok (.aload_n 0, 1) := by decide +kernel
theorem dX8_rowFits_23 : decode cX8_rowFits 23 = .ok (.getfield 7, 3) := by decide +kernel
theorem dX8_rowFits_26 : decode cX8_rowFits 26 = .ok (.iconst 1, 1) := by decide +kernel
theorem dX8_rowFits_27 : decode cX8_rowFits 27 = .ok (.iaload, 1) := by decide +kernel
theorem dX8_rowFits_28 : decode cX8_rowFits 28 = .ok (.if_icmp .ge 31, 3) := by decide +kernel
theorem dX8_rowFits_31 : decode cX8_rowFits 31 = .ok (.aload_n 1, 1) := by decide +kernel
theorem dX8_rowFits_32 : decode cX8_rowFits 32 = .ok (.iload_n 3, 1) := by decide +kernel
theorem dX8_rowFits_33 : decode cX8_rowFits 33 = .ok (.iload 5, 2) := by decide +kernel
theorem dX8_rowFits_35 : decode cX8_rowFits 35 = .ok (.iload 4, 2) := by decide +kernel
theorem dX8_rowFits_37 : decode cX8_rowFits 37 = .ok (.invokestatic 85, 3) := by decide +kernel
theorem dX8_rowFits_40 : decode cX8_rowFits 40 = .ok (.aload_n 0, 1) := by decide +kernel
theorem dX8_rowFits_41 : decode cX8_rowFits 41 = .ok (.iload_n 2, 1) := by decide +kernel
theorem dX8_rowFits_42 : decode cX8_rowFits 42 = .ok (.iload_n 3, 1) := by decide +kernel
theorem dX8_rowFits_43 : decode cX8_rowFits 43 = .ok (.iload 5, 2) := by decide +kernel
theorem dX8_rowFits_45 : decode cX8_rowFits 45 = .ok (.invokevirtual 110, 3) := by decide +kernel
theorem dX8_rowFits_48 : decode cX8_rowFits 48 = .ok (.if_icmp .eq 5, 3) := by decide +kernel
theorem dX8_rowFits_51 : decode cX8_rowFits 51 = .ok (.iconst 0, 1) := by decide +kernel
theorem dX8_rowFits_52 : decode cX8_rowFits 52 = .ok (.ireturn, 1) := by decide +kernel
theorem dX8_rowFits_53 : decode cX8_rowFits 53 = .ok (.iinc 5 1, 3) := by decide +kernel
theorem dX8_rowFits_56 : decode cX8_rowFits 56 = .ok (.goto (-36), 3) := by decide +kernel
theorem dX8_rowFits_59 : decode cX8_rowFits 59 = .ok (.iconst 1, 1) := by decide +kernel
theorem dX8_rowFits_60 : decode cX8_rowFits 60 = .ok (.ireturn, 1) := by decide +kernel
theorem dX8_allFit_0 : decode cX8_allFit 0 = .ok (.iconst 0, 1) := by decide +kernel
theorem dX8_allFit_1 : decode cX8_allFit 1 = .ok (.istore_n 2, 1) := by decide +kernel
theorem dX8_allFit_2 : decode cX8_allFit 2 = .ok (.iload_n 2, 1) := by decide +kernel
theorem dX8_allFit_3 : decode cX8_allFit 3 = .ok (.aload_n 0, 1) := by decide +kernel
theorem dX8_allFit_4 : decode cX8_allFit 4 = .ok (.getfield 7, 3) := by decide +kernel
theorem dX8_allFit_7 : decode cX8_allFit 7 = .ok (.bipush 36, 2) := by decide +kernel
theorem dX8_allFit_9 : decode cX8_allFit 9 = .ok (.iaload, 1) := by decide +kernel
theorem dX8_allFit_10 : decode cX8_allFit 10 = .ok (.if_icmp .ge 48, 3) := by decide +kernel
theorem dX8_allFit_13 : decode cX8_allFit 13 = .ok (.iconst 0, 1) := by decide +kernel
theorem dX8_allFit_14 : decode cX8_allFit 14 = .ok (.istore_n 3, 1) := by decide +kernel
theorem dX8_allFit_15 : decode cX8_allFit 15 = .ok (.iload_n 3, 1) := by decide +kernel
theorem dX8_allFit_16 : decode cX8_allFit 16 = .ok (.aload_n 0, 1) := by decide +kernel
theorem dX8_allFit_17 : decode cX8_allFit 17 = .ok (.getfield 7, 3) := by decide +kernel
theorem dX8_allFit_20 : decode cX8_allFit 20 = .ok (.iconst 0, 1) := by decide +kernel
theorem dX8_allFit_21 : decode cX8_allFit 21 = .ok (.iaload, 1) := by decide +kernel
theorem dX8_allFit_22 : decode cX8_allFit 22 = .ok (.if_icmp .ge 30, 3) := by decide +kernel
theorem dX8_allFit_25 : decode cX8_allFit 25 = .ok (.aload_n 0, 1) := by decide +kernel
theorem dX8_allFit_26 : decode cX8_allFit 26 = .ok (.iload_n 2, 1) := by decide +kernel
theorem dX8_allFit_27 : decode cX8_allFit 27 = .ok (.iload_n 3, 1) := by decide +kernel
theorem dX8_allFit_28 : decode cX8_allFit 28 = .ok (.invokevirtual 107, 3) := by decide +kernel
theorem dX8_allFit_31 : decode cX8_allFit 31 = .ok (.ifCond .eq 15, 3) := by decide +kernel
theorem dX8_allFit_34 : decode cX8_allFit 34 = .ok (.aload_n 0, 1) := by decide +kernel
theorem dX8_allFit_35 : decode cX8_allFit 35 = .ok (.aload_n 1, 1) := by decide +kernel
theorem dX8_allFit_36 : decode cX8_allFit 36 = .ok (.iload_n 2, 1) := by decide +kernel
theorem dX8_allFit_37 : decode cX8_allFit 37 = .ok (.iload_n 3, 1) := by decide +kernel
theorem dX8_allFit_38 : decode cX8_allFit 38 = .ok (.invokevirtual 164, 3) := by decide +kernel
theorem dX8_allFit_41 : decode cX8_allFit 41 = .ok (.ifCond .ne 5, 3) := by decide +kernel
theorem dX8_allFit_44 : decode cX8_allFit 44 = .ok (.iconst 0, 1) := by decide +kernel
theorem dX8_allFit_45 : decode cX8_allFit 45 = .ok (.ireturn, 1) := by decide +kernel
theorem dX8_allFit_46 : decode cX8_allFit 46 = .ok (.iinc 3 1, 3) := by decide +kernel
theorem dX8_allFit_49 : decode cX8_allFit 49 = .ok (.goto (-34), 3) := by decide +kernel
theorem dX8_allFit_52 : decode cX8_allFit 52 = .ok (.iinc 2 1, 3) := by decide +kernel
theorem dX8_allFit_55 : decode cX8_allFit 55 = .ok (.goto (-53), 3) := by decide +kernel
theorem dX8_allFit_58 : decode cX8_allFit 58 = .ok (.iconst 1, 1) := by decide +kernel
theorem dX8_allFit_59 : decode cX8_allFit 59 = .ok (.ireturn, 1) := by decide +kernel
theorem dX8_tries_0 : decode cX8_tries 0 = .ok (.aload_n 0, 1) := by decide +kernel
theorem dX8_tries_1 : decode cX8_tries 1 = .ok (.getfield 7, 3) := by decide +kernel
theorem dX8_tries_4 : decode cX8_tries 4 = .ok (.iconst 0, 1) := by decide +kernel
theorem dX8_tries_5 : decode cX8_tries 5 = .ok (.aload_n 0, 1) := by decide +kernel
theorem dX8_tries_6 : decode cX8_tries 6 = .ok (.getfield 16, 3) := by decide +kernel
theorem dX8_tries_9 : decode cX8_tries 9 = .ok (.iconst 0, 1) := by decide +kernel
theorem dX8_tries_10 : decode cX8_tries 10 = .ok (.invokestatic 32, 3) := by decide +kernel
theorem dX8_tries_13 : decode cX8_tries 13 = .ok (.aload_n 0, 1) := by decide +kernel
theorem dX8_tries_14 : decode cX8_tries 14 = .ok (.iconst 0, 1) := by decide +kernel
theorem dX8_tries_15 : decode cX8_tries 15 = .ok (.putfield 168, 3) := by decide +kernel
theorem dX8_tries_18 : decode cX8_tries 18 = .ok (.bipush 9, 2) := by decide +kernel
theorem dX8_tries_20 : decode cX8_tries 20 = .ok (.bipush 6, 2) := by decide +kernel
theorem dX8_tries_22 : decode cX8_tries 22 = .ok (.iload_n 1, 1) := by decide +kernel
theorem dX8_tries_23 : decode cX8_tries 23 = .ok (.imul, 1) := by decide +kernel
theorem dX8_tries_24 : decode cX8_tries 24 = .ok (.iadd, 1) := by decide +kernel
theorem dX8_tries_25 : decode cX8_tries 25 = .ok (.istore_n 2, 1) := by decide +kernel
theorem dX8_tries_26 : decode cX8_tries 26 = .ok (.sipush (-1000), 3) := by decide +kernel
theorem dX8_tries_29 : decode cX8_tries 29 = .ok (.istore_n 3, 1) := by decide +kernel
theorem dX8_tries_30 : decode cX8_tries 30 = .ok (.iload_n 3, 1) := by decide +kernel
theorem dX8_tries_31 : decode cX8_tries 31 = .ok (.sipush 2401, 3) := by decide +kernel
theorem dX8_tries_34 : decode cX8_tries 34 = .ok (.if_icmp .ge 119, 3) := by decide +kernel
theorem dX8_tries_37 : decode cX8_tries 37 = .ok (.bipush (-100), 2) := by decide +kernel
theorem dX8_tries_39 : decode cX8_tries 39 = .ok (.istore 4, 2) := by decide +kernel
theorem dX8_tries_41 : decode cX8_tries 41 = .ok (.iload 4, 2) := by decide +kernel
theorem dX8_tries_43 : decode cX8_tries 43 = .ok (.bipush 101, 2) := by decide +kernel
theorem dX8_tries_45 : decode cX8_tries 45 = .ok (.if_icmp .ge 102, 3) := by decide +kernel
theorem dX8_tries_48 : decode cX8_tries 48 = .ok (.aload_n 0, 1) := by decide +kernel
theorem dX8_tries_49 : decode cX8_tries 49 = .ok (.getfield 16, 3) := by decide +kernel
theorem dX8_tries_52 : decode cX8_tries 52 = .ok (.iload_n 2, 1) := by decide +kernel
theorem dX8_tries_53 : decode cX8_tries 53 = .ok (.iconst 2, 1) := by decide +kernel
theorem dX8_tries_54 : decode cX8_tries 54 = .ok (.iadd, 1) := by decide +kernel
theorem dX8_tries_55 : decode cX8_tries 55 = .ok (.iload_n 3, 1) := by decide +kernel
theorem dX8_tries_56 : decode cX8_tries 56 = .ok (.iastore, 1) := by decide +kernel
theorem dX8_tries_57 : decode cX8_tries 57 = .ok (.aload_n 0, 1) := by decide +kernel
theorem dX8_tries_58 : decode cX8_tries 58 = .ok (.getfield 16, 3) := by decide +kernel
theorem dX8_tries_61 : decode cX8_tries 61 = .ok (.iload_n 2, 1) := by decide +kernel
theorem dX8_tries_62 : decode cX8_tries 62 = .ok (.iconst 3, 1) := by decide +kernel
theorem dX8_tries_63 : decode cX8_tries 63 = .ok (.iadd, 1) := by decide +kernel
theorem dX8_tries_64 : decode cX8_tries 64 = .ok (.iload 4, 2) := by decide +kernel
theorem dX8_tries_66 : decode cX8_tries 66 = .ok (.iastore, 1) := by decide +kernel
theorem dX8_tries_67 : decode cX8_tries 67 = .ok (.aload_n 0, 1) := by decide +kernel
theorem dX8_tries_68 : decode cX8_tries 68 = .ok (.aload_n 0, 1) := by decide +kernel
theorem dX8_tries_69 : decode cX8_tries 69 = .ok (.getfield 16, 3) := by decide +kernel
theorem dX8_tries_72 : decode cX8_tries 72 = .ok (.invokevirtual 171, 3) := by decide +kernel
theorem dX8_tries_75 : decode cX8_tries 75 = .ok (.ifCond .ne 6, 3) := by decide +kernel
theorem dX8_tries_78 : decode cX8_tries 78 = .ok (.goto 63, 3) := by decide +kernel
theorem dX8_tries_81 : decode cX8_tries 81 = .ok (.aload_n 0, 1) := by decide +kernel
theorem dX8_tries_82 : decode cX8_tries 82 = .ok (.aload_n 0, 1) := by decide +kernel
theorem dX8_tries_83 : decode cX8_tries 83 = .ok (.getfield 168, 3) := by decide +kernel
theorem dX8_tries_86 : decode cX8_tries 86 = .ok (.ifCond .ne 7, 3) := by decide +kernel
theorem dX8_tries_89 : decode cX8_tries 89 = .ok (.iload_n 3, 1) := by decide +kernel
theorem dX8_tries_90 : decode cX8_tries 90 = .ok (.goto 7, 3) := by decide +kernel
theorem dX8_tries_93 : decode cX8_tries 93 = .ok (.aload_n 0, 1) := by decide +kernel
theorem dX8_tries_94 : decode cX8_tries 94 = .ok (.getfield 175, 3) := by decide +kernel
theorem dX8_tries_97 : decode cX8_tries 97 = .ok (.putfield 175, 3) := by decide +kernel
theorem dX8_tries_100 : decode cX8_tries 100 = .ok (.aload_n 0, 1) := by decide +kernel
theorem dX8_tries_101 : decode cX8_tries 101 = .ok (.aload_n 0, 1) := by decide +kernel
theorem dX8_tries_102 : decode cX8_tries 102 = .ok (.getfield 168, 3) := by decide +kernel
theorem dX8_tries_105 : decode cX8_tries 105 = .ok (.ifCond .ne 8, 3) := by decide +kernel
theorem dX8_tries_108 : decode cX8_tries 108 = .ok (.iload 4, 2) := by decide +kernel
theorem dX8_tries_110 : decode cX8_tries 110 = .ok (.goto 7, 3) := by decide +kernel
theorem dX8_tries_113 : decode cX8_tries 113 = .ok (.aload_n 0, 1) := by decide +kernel
theorem dX8_tries_114 : decode cX8_tries 114 = .ok (.getfield 178, 3) := by decide +kernel
theorem dX8_tries_117 : decode cX8_tries 117 = .ok (.putfield 178, 3) := by decide +kernel
theorem dX8_tries_120 : decode cX8_tries 120 = .ok (.aload_n 0, 1) := by decide +kernel
theorem dX8_tries_121 : decode cX8_tries 121 = .ok (.iload_n 3, 1) := by decide +kernel
theorem dX8_tries_122 : decode cX8_tries 122 = .ok (.putfield 181, 3) := by decide +kernel
theorem dX8_tries_125 : decode cX8_tries 125 = .ok (.aload_n 0, 1) := by decide +kernel
theorem dX8_tries_126 : decode cX8_tries 126 = .ok (.iload 4, 2) := by decide +kernel
theorem dX8_tries_128 : decode cX8_tries 128 = .ok (.putfield 184, 3) := by decide +kernel
theorem dX8_tries_131 : decode cX8_tries 131 = .ok (.aload_n 0, 1) := by decide +kernel
theorem dX8_tries_132 : decode cX8_tries 132 = .ok (.dup, 1) := by decide +kernel
theorem dX8_tries_133 : decode cX8_tries 133 = .ok (.getfield 168, 3) := by decide +kernel
theorem dX8_tries_136 : decode cX8_tries 136 = .ok (.iconst 1, 1) := by decide +kernel
theorem dX8_tries_137 : decode cX8_tries 137 = .ok (.iadd, 1) := by decide +kernel
theorem dX8_tries_138 : decode cX8_tries 138 = .ok (.putfield 168, 3) := by decide +kernel
theorem dX8_tries_141 : decode cX8_tries 141 = .ok (.iinc 4 10, 3) := by decide +kernel
theorem dX8_tries_144 : decode cX8_tries 144 = .ok (.goto (-103), 3) := by decide +kernel
theorem dX8_tries_147 : decode cX8_tries 147 = .ok (.iinc 3 100, 3) := by decide +kernel
theorem dX8_tries_150 : decode cX8_tries 150 = .ok (.goto (-120), 3) := by decide +kernel
theorem dX8_tries_153 : decode cX8_tries 153 = .ok (.return_, 1) := by decide +kernel
theorem dX8_motions_0 : decode cX8_motions 0 = .ok (.aload_n 0, 1) := by decide +kernel
theorem dX8_motions_1 : decode cX8_motions 1 = .ok (.iload_n 1, 1) := by decide +kernel
theorem dX8_motions_2 : decode cX8_motions 2 = .ok (.invokevirtual 59, 3) := by decide +kernel
theorem dX8_motions_5 : decode cX8_motions 5 = .ok (.ifCond .eq 12, 3) := by decide +kernel
theorem dX8_motions_8 : decode cX8_motions 8 = .ok (.iload_n 2, 1) := by decide +kernel
theorem dX8_motions_9 : decode cX8_motions 9 = .ok (.iconst 0, 1) := by decide +kernel
theorem dX8_motions_10 : decode cX8_motions 10 = .ok (.iconst 4, 1) := by decide +kernel
theorem dX8_motions_11 : decode cX8_motions 11 = .ok (.invokestatic 36, 3) := by decide +kernel
theorem dX8_motions_14 : decode cX8_motions 14 = .ok (.ifCond .ne 6, 3) := by decide +kernel
theorem dX8_motions_17 : decode cX8_motions 17 = .ok (.ldc 44, 2) := by decide +kernel
theorem dX8_motions_19 : decode cX8_motions 19 = .ok (.ireturn, 1) := by decide +kernel
theorem dX8_motions_20 : decode cX8_motions 20 = .ok (.aload_n 0, 1) := by decide +kernel
theorem dX8_motions_21 : decode cX8_motions 21 = .ok (.iload_n 1, 1) := by decide +kernel
theorem dX8_motions_22 : decode cX8_motions 22 = .ok (.invokevirtual 187, 3) := by decide +kernel
theorem dX8_motions_25 : decode cX8_motions 25 = .ok (.iload_n 2, 1) := by decide +kernel
theorem dX8_motions_26 : decode cX8_motions 26 = .ok (.ifCond .le 13, 3) := by decide +kernel
theorem dX8_motions_29 : decode cX8_motions 29 = .ok (.aload_n 0, 1) := by decide +kernel
theorem dX8_motions_30 : decode cX8_motions 30 = .ok (.getfield 168, 3) := by decide +kernel
theorem dX8_motions_33 : decode cX8_motions 33 = .ok (.ifCond .ne 6, 3) := by decide +kernel
theorem dX8_motions_36 : decode cX8_motions 36 = .ok (.ldc 120, 2) := by decide +kernel
theorem dX8_motions_38 : decode cX8_motions 38 = .ok (.ireturn, 1) := by decide +kernel
theorem dX8_motions_39 : decode cX8_motions 39 = .ok (.iload_n 2, 1) := by decide +kernel
theorem dX8_motions_40 : decode cX8_motions 40 = .ok (.tableswitch 52 0 3 #[32, 37, 42, 47], 32) := by decide +kernel
theorem dX8_motions_72 : decode cX8_motions 72 = .ok (.aload_n 0, 1) := by decide +kernel
theorem dX8_motions_73 : decode cX8_motions 73 = .ok (.getfield 168, 3) := by decide +kernel
theorem dX8_motions_76 : decode cX8_motions 76 = .ok (.ireturn, 1) := by decide +kernel
theorem dX8_motions_77 : decode cX8_motions 77 = .ok (.aload_n 0, 1) := by decide +kernel
theorem dX8_motions_78 : decode cX8_motions 78 = .ok (.getfield 175, 3) := by decide +kernel
theorem dX8_motions_81 : decode cX8_motions 81 = .ok (.ireturn, 1) := by decide +kernel
theorem dX8_motions_82 : decode cX8_motions 82 = .ok (.aload_n 0, 1) := by decide +kernel
theorem dX8_motions_83 : decode cX8_motions 83 = .ok (.getfield 178, 3) := by decide +kernel
theorem dX8_motions_86 : decode cX8_motions 86 = .ok (.ireturn, 1) := by decide +kernel
theorem dX8_motions_87 : decode cX8_motions 87 = .ok (.aload_n 0, 1) := by decide +kernel
theorem dX8_motions_88 : decode cX8_motions 88 = .ok (.getfield 181, 3) := by decide +kernel
theorem dX8_motions_91 : decode cX8_motions 91 = .ok (.ireturn, 1) := by decide +kernel
theorem dX8_motions_92 : decode cX8_motions 92 = .ok (.aload_n 0, 1) := by decide +kernel
theorem dX8_motions_93 : decode cX8_motions 93 = .ok (.getfield 184, 3) := by decide +kernel
theorem dX8_motions_96 : decode cX8_motions 96 = .ok (.ireturn, 1) := by decide +kernel
theorem dX8_periods_0 : decode cX8_periods 0 = .ok (.aload_n 0, 1) := by decide +kernel
theorem dX8_periods_1 : decode cX8_periods 1 = .ok (.getfield 7, 3) := by decide +kernel
theorem dX8_periods_4 : decode cX8_periods 4 = .ok (.iconst 0, 1) := by decide +kernel
theorem dX8_periods_5 : decode cX8_periods 5 = .ok (.aload_n 0, 1) := by decide +kernel
theorem dX8_periods_6 : decode cX8_periods 6 = .ok (.getfield 16, 3) := by decide +kernel
theorem dX8_periods_9 : decode cX8_periods 9 = .ok (.iconst 0, 1) := by decide +kernel
theorem dX8_periods_10 : decode cX8_periods 10 = .ok (.invokestatic 32, 3) := by decide +kernel
theorem dX8_periods_13 : decode cX8_periods 13 = .ok (.iconst 0, 1) := by decide +kernel
theorem dX8_periods_14 : decode cX8_periods 14 = .ok (.istore_n 1, 1) := by decide +kernel
theorem dX8_periods_15 : decode cX8_periods 15 = .ok (.iconst 0, 1) := by decide +kernel
theorem dX8_periods_16 : decode cX8_periods 16 = .ok (.istore_n 2, 1) := by decide +kernel
theorem dX8_periods_17 : decode cX8_periods 17 = .ok (.iload_n 2, 1) := by decide +kernel
theorem dX8_periods_18 : decode cX8_periods 18 = .ok (.bipush 21, 2) := by decide +kernel
theorem dX8_periods_20 : decode cX8_periods 20 = .ok (.if_icmp .ge 37, 3) := by decide +kernel
theorem dX8_periods_23 : decode cX8_periods 23 = .ok (.aload_n 0, 1) := by decide +kernel
theorem dX8_periods_24 : decode cX8_periods 24 = .ok (.getfield 16, 3) := by decide +kernel
theorem dX8_periods_27 : decode cX8_periods 27 = .ok (.iconst 5, 1) := by decide +kernel
theorem dX8_periods_28 : decode cX8_periods 28 = .ok (.iload_n 2, 1) := by decide +kernel
theorem dX8_periods_29 : decode cX8_periods 29 = .ok (.iastore, 1) := by decide +kernel
theorem dX8_periods_30 : decode cX8_periods 30 = .ok (.iload_n 1, 1) := by decide +kernel
theorem dX8_periods_31 : decode cX8_periods 31 = .ok (.aload_n 0, 1) := by decide +kernel
theorem dX8_periods_32 : decode cX8_periods 32 = .ok (.aload_n 0, 1) := by decide +kernel
theorem dX8_periods_33 : decode cX8_periods 33 = .ok (.getfield 16, 3) := by decide +kernel
theorem dX8_periods_36 : decode cX8_periods 36 = .ok (.invokevirtual 171, 3) := by decide +kernel
theorem dX8_periods_39 : decode cX8_periods 39 = .ok (.ifCond .eq 9, 3) := by decide +kernel
theorem dX8_periods_42 : decode cX8_periods 42 = .ok (.iconst 1, 1) := by decide +kernel
theorem dX8_periods_43 : decode cX8_periods 43 = .ok (.iload_n 2, 1) := by decide +kernel
theorem dX8_periods_44 : decode cX8_periods 44 = .ok (.ishl, 1) := by decide +kernel
theorem dX8_periods_45 : decode cX8_periods 45 = .ok (.goto 4, 3) := by decide +kernel
theorem dX8_periods_48 : decode cX8_periods 48 = .ok (.iconst 0, 1) := by decide +kernel
theorem dX8_periods_49 : decode cX8_periods 49 = .ok (.ior, 1) := by decide +kernel
theorem dX8_periods_50 : decode cX8_periods 50 = .ok (.istore_n 1, 1) := by decide +kernel
theorem dX8_periods_51 : decode cX8_periods 51 = .ok (.iinc 2 1, 3) := by decide +kernel
theorem dX8_periods_54 : decode cX8_periods 54 = .ok (.goto (-37), 3) := by decide +kernel
theorem dX8_periods_57 : decode cX8_periods 57 = .ok (.iload_n 1, 1) := by decide +kernel
theorem dX8_periods_58 : decode cX8_periods 58 = .ok (.ireturn, 1) := by decide +kernel
theorem dX8_fitting_0 : decode cX8_fitting 0 = .ok (.aload_n 0, 1) := by decide +kernel
theorem dX8_fitting_1 : decode cX8_fitting 1 = .ok (.iload_n 1, 1) := by decide +kernel
theorem dX8_fitting_2 : decode cX8_fitting 2 = .ok (.invokevirtual 97, 3) := by decide +kernel
theorem dX8_fitting_5 : decode cX8_fitting 5 = .ok (.ifCond .ne 6, 3) := by decide +kernel
theorem dX8_fitting_8 : decode cX8_fitting 8 = .ok (.ldc 44, 2) := by decide +kernel
theorem dX8_fitting_10 : decode cX8_fitting 10 = .ok (.ireturn, 1) := by decide +kernel
theorem dX8_fitting_11 : decode cX8_fitting 11 = .ok (.iconst 0, 1) := by decide +kernel
theorem dX8_fitting_12 : decode cX8_fitting 12 = .ok (.istore_n 2, 1) := by decide +kernel
theorem dX8_fitting_13 : decode cX8_fitting 13 = .ok (.iconst 0, 1) := by decide +kernel
theorem dX8_fitting_14 : decode cX8_fitting 14 = .ok (.istore_n 3, 1) := by decide +kernel
theorem dX8_fitting_15 : decode cX8_fitting 15 = .ok (.iload_n 3, 1) := by decide +kernel
theorem dX8_fitting_16 : decode cX8_fitting 16 = .ok (.aload_n 0, 1) := by decide +kernel
theorem dX8_fitting_17 : decode cX8_fitting 17 = .ok (.getfield 7, 3) := by decide +kernel
theorem dX8_fitting_20 : decode cX8_fitting 20 = .ok (.iconst 0, 1) := by decide +kernel
theorem dX8_fitting_21 : decode cX8_fitting 21 = .ok (.iaload, 1) := by decide +kernel
theorem dX8_fitting_22 : decode cX8_fitting 22 = .ok (.if_icmp .ge 41, 3) := by decide +kernel
theorem dX8_fitting_25 : decode cX8_fitting 25 = .ok (.iload_n 2, 1) := by decide +kernel
theorem dX8_fitting_26 : decode cX8_fitting 26 = .ok (.aload_n 0, 1) := by decide +kernel
theorem dX8_fitting_27 : decode cX8_fitting 27 = .ok (.iload_n 1, 1) := by decide +kernel
theorem dX8_fitting_28 : decode cX8_fitting 28 = .ok (.iload_n 3, 1) := by decide +kernel
theorem dX8_fitting_29 : decode cX8_fitting 29 = .ok (.invokevirtual 107, 3) := by decide +kernel
theorem dX8_fitting_32 : decode cX8_fitting 32 = .ok (.ifCond .eq 22, 3) := by decide +kernel
theorem dX8_fitting_35 : decode cX8_fitting 35 = .ok (.aload_n 0, 1) := by decide +kernel
theorem dX8_fitting_36 : decode cX8_fitting 36 = .ok (.aload_n 0, 1) := by decide +kernel
theorem dX8_fitting_37 : decode cX8_fitting 37 = .ok (.getfield 7, 3) := by decide +kernel
theorem dX8_fitting_40 : decode cX8_fitting 40 = .ok (.iload_n 1, 1) := by decide +kernel
theorem dX8_fitting_41 : decode cX8_fitting 41 = .ok (.iload_n 3, 1) := by decide +kernel
theorem dX8_fitting_42 : decode cX8_fitting 42 = .ok (.invokevirtual 164, 3) := by decide +kernel
theorem dX8_fitting_45 : decode cX8_fitting 45 = .ok (.ifCond .eq 9, 3) := by decide +kernel
theorem dX8_fitting_48 : decode cX8_fitting 48 = .ok (.iconst 1, 1) := by decide +kernel
theorem dX8_fitting_49 : decode cX8_fitting 49 = .ok (.iload_n 3, 1) := by decide +kernel
theorem dX8_fitting_50 : decode cX8_fitting 50 = .ok (.ishl, 1) := by decide +kernel
theorem dX8_fitting_51 : decode cX8_fitting 51 = .ok (.goto 4, 3) := by decide +kernel
theorem dX8_fitting_54 : decode cX8_fitting 54 = .ok (.iconst 0, 1) := by decide +kernel
theorem dX8_fitting_55 : decode cX8_fitting 55 = .ok (.ior, 1) := by decide +kernel
theorem dX8_fitting_56 : decode cX8_fitting 56 = .ok (.istore_n 2, 1) := by decide +kernel
theorem dX8_fitting_57 : decode cX8_fitting 57 = .ok (.iinc 3 1, 3) := by decide +kernel
theorem dX8_fitting_60 : decode cX8_fitting 60 = .ok (.goto (-45), 3) := by decide +kernel
theorem dX8_fitting_63 : decode cX8_fitting 63 = .ok (.iload_n 2, 1) := by decide +kernel
theorem dX8_fitting_64 : decode cX8_fitting 64 = .ok (.ireturn, 1) := by decide +kernel
theorem dX8_count_0 : decode cX8_count 0 = .ok (.iload_n 1, 1) := by decide +kernel
theorem dX8_count_1 : decode cX8_count 1 = .ok (.tableswitch 123 0 7 #[47, 55, 63, 71, 82, 90, 113, 118], 47) := by decide +kernel
theorem dX8_count_48 : decode cX8_count 48 = .ok (.aload_n 0, 1) := by decide +kernel
theorem dX8_count_49 : decode cX8_count 49 = .ok (.getfield 7, 3) := by decide +kernel
theorem dX8_count_52 : decode cX8_count 52 = .ok (.bipush 8, 2) := by decide +kernel
theorem dX8_count_54 : decode cX8_count 54 = .ok (.iaload, 1) := by decide +kernel
theorem dX8_count_55 : decode cX8_count 55 = .ok (.ireturn, 1) := by decide +kernel
theorem dX8_count_56 : decode cX8_count 56 = .ok (.aload_n 0, 1) := by decide +kernel
theorem dX8_count_57 : decode cX8_count 57 = .ok (.getfield 7, 3) := by decide +kernel
theorem dX8_count_60 : decode cX8_count 60 = .ok (.bipush 36, 2) := by decide +kernel
theorem dX8_count_62 : decode cX8_count 62 = .ok (.iaload, 1) := by decide +kernel
theorem dX8_count_63 : decode cX8_count 63 = .ok (.ireturn, 1) := by decide +kernel
theorem dX8_count_64 : decode cX8_count 64 = .ok (.aload_n 0, 1) := by decide +kernel
theorem dX8_count_65 : decode cX8_count 65 = .ok (.getfield 7, 3) := by decide +kernel
theorem dX8_count_68 : decode cX8_count 68 = .ok (.bipush 33, 2) := by decide +kernel
theorem dX8_count_70 : decode cX8_count 70 = .ok (.iaload, 1) := by decide +kernel
theorem dX8_count_71 : decode cX8_count 71 = .ok (.ireturn, 1) := by decide +kernel
theorem dX8_count_72 : decode cX8_count 72 = .ok (.aload_n 0, 1) := by decide +kernel
theorem dX8_count_73 : decode cX8_count 73 = .ok (.getfield 7, 3) := by decide +kernel
theorem dX8_count_76 : decode cX8_count 76 = .ok (.bipush 34, 2) := by decide +kernel
theorem dX8_count_78 : decode cX8_count 78 = .ok (.iaload, 1) := by decide +kernel
theorem dX8_count_79 : decode cX8_count 79 = .ok (.invokestatic 67, 3) := by decide +kernel
theorem dX8_count_82 : decode cX8_count 82 = .ok (.ireturn, 1) := by decide +kernel
theorem dX8_count_83 : decode cX8_count 83 = .ok (.aload_n 0, 1) := by decide +kernel
theorem dX8_count_84 : decode cX8_count 84 = .ok (.getfield 7, 3) := by decide +kernel
theorem dX8_count_87 : decode cX8_count 87 = .ok (.bipush 35, 2) := by decide +kernel
theorem dX8_count_89 : decode cX8_count 89 = .ok (.iaload, 1) := by decide +kernel
theorem dX8_count_90 : decode cX8_count 90 = .ok (.ireturn, 1) := by decide +kernel
theorem dX8_count_91 : decode cX8_count 91 = .ok (.aload_n 0, 1) := by decide +kernel
theorem dX8_count_92 : decode cX8_count 92 = .ok (.getfield 7, 3) := by decide +kernel
theorem dX8_count_95 : decode cX8_count 95 = .ok (.aload_n 0, 1) := by decide +kernel
theorem dX8_count_96 : decode cX8_count 96 = .ok (.getfield 7, 3) := by decide +kernel
theorem dX8_count_99 : decode cX8_count 99 = .ok (.bipush 33, 2) := by decide +kernel
theorem dX8_count_101 : decode cX8_count 101 = .ok (.iaload, 1) := by decide +kernel
theorem dX8_count_102 : decode cX8_count 102 = .ok (.invokestatic 75, 3) := by decide +kernel
theorem dX8_count_105 : decode cX8_count 105 = .ok (.ifCond .eq 7, 3) := by decide +kernel
theorem dX8_count_108 : decode cX8_count 108 = .ok (.iconst 1, 1) := by decide +kernel
theorem dX8_count_109 : decode cX8_count 109 = .ok (.goto 4, 3) := by decide +kernel
theorem dX8_count_112 : decode cX8_count 112 = .ok (.iconst 0, 1) := by decide +kernel
theorem dX8_count_113 : decode cX8_count 113 = .ok (.ireturn, 1) := by decide +kernel
theorem dX8_count_114 : decode cX8_count 114 = .ok (.aload_n 0, 1) := by decide +kernel
theorem dX8_count_115 : decode cX8_count 115 = .ok (.getfield 28, 3) := by decide +kernel
theorem dX8_count_118 : decode cX8_count 118 = .ok (.ireturn, 1) := by decide +kernel
theorem dX8_count_119 : decode cX8_count 119 = .ok (.aload_n 0, 1) := by decide +kernel
theorem dX8_count_120 : decode cX8_count 120 = .ok (.getfield 191, 3) := by decide +kernel
theorem dX8_count_123 : decode cX8_count 123 = .ok (.ireturn, 1) := by decide +kernel
theorem dX8_count_124 : decode cX8_count 124 = .ok (.iload_n 1, 1) := by decide +kernel
theorem dX8_count_125 : decode cX8_count 125 = .ok (.bipush 10, 2) := by decide +kernel
theorem dX8_count_127 : decode cX8_count 127 = .ok (.bipush 17, 2) := by decide +kernel
theorem dX8_count_129 : decode cX8_count 129 = .ok (.invokestatic 36, 3) := by decide +kernel
theorem dX8_count_132 : decode cX8_count 132 = .ok (.ifCond .eq 15, 3) := by decide +kernel
theorem dX8_count_135 : decode cX8_count 135 = .ok (.aload_n 0, 1) := by decide +kernel
theorem dX8_count_136 : decode cX8_count 136 = .ok (.getfield 7, 3) := by decide +kernel
theorem dX8_count_139 : decode cX8_count 139 = .ok (.iload_n 1, 1) := by decide +kernel
theorem dX8_count_140 : decode cX8_count 140 = .ok (.bipush 10, 2) := by decide +kernel
theorem dX8_count_142 : decode cX8_count 142 = .ok (.isub, 1) := by decide +kernel
theorem dX8_count_143 : decode cX8_count 143 = .ok (.iaload, 1) := by decide +kernel
theorem dX8_count_144 : decode cX8_count 144 = .ok (.goto 5, 3) := by decide +kernel
theorem dX8_count_147 : decode cX8_count 147 = .ok (.ldc 44, 2) := by decide +kernel
theorem dX8_count_149 : decode cX8_count 149 = .ok (.ireturn, 1) := by decide +kernel
theorem dX8_undo_0 : decode cX8_undo 0 = .ok (.aload_n 0, 1) := by decide +kernel
theorem dX8_undo_1 : decode cX8_undo 1 = .ok (.getfield 28, 3) := by decide +kernel
theorem dX8_undo_4 : decode cX8_undo 4 = .ok (.ifCond .ne 6, 3) := by decide +kernel
theorem dX8_undo_7 : decode cX8_undo 7 = .ok (.ldc 45, 2) := by decide +kernel
theorem dX8_undo_9 : decode cX8_undo 9 = .ok (.ireturn, 1) := by decide +kernel
theorem dX8_undo_10 : decode cX8_undo 10 = .ok (.aload_n 0, 1) := by decide +kernel
theorem dX8_undo_11 : decode cX8_undo 11 = .ok (.dup, 1) := by decide +kernel
theorem dX8_undo_12 : decode cX8_undo 12 = .ok (.getfield 28, 3) := by decide +kernel
theorem dX8_undo_15 : decode cX8_undo 15 = .ok (.iconst 1, 1) := by decide +kernel
theorem dX8_undo_16 : decode cX8_undo 16 = .ok (.isub, 1) := by decide +kernel
theorem dX8_undo_17 : decode cX8_undo 17 = .ok (.putfield 28, 3) := by decide +kernel
theorem dX8_undo_20 : decode cX8_undo 20 = .ok (.aload_n 0, 1) := by decide +kernel
theorem dX8_undo_21 : decode cX8_undo 21 = .ok (.getfield 13, 3) := by decide +kernel
theorem dX8_undo_24 : decode cX8_undo 24 = .ok (.sipush 867, 3) := by decide +kernel
theorem dX8_undo_27 : decode cX8_undo 27 = .ok (.aload_n 0, 1) := by decide +kernel
theorem dX8_undo_28 : decode cX8_undo 28 = .ok (.getfield 28, 3) := by decide +kernel
theorem dX8_undo_31 : decode cX8_undo 31 = .ok (.imul, 1) := by decide +kernel
theorem dX8_undo_32 : decode cX8_undo 32 = .ok (.aload_n 0, 1) := by decide +kernel
theorem dX8_undo_33 : decode cX8_undo 33 = .ok (.getfield 7, 3) := by decide +kernel
theorem dX8_undo_36 : decode cX8_undo 36 = .ok (.iconst 0, 1) := by decide +kernel
theorem dX8_undo_37 : decode cX8_undo 37 = .ok (.invokestatic 32, 3) := by decide +kernel
theorem dX8_undo_40 : decode cX8_undo 40 = .ok (.aload_n 0, 1) := by decide +kernel
theorem dX8_undo_41 : decode cX8_undo 41 = .ok (.getfield 28, 3) := by decide +kernel
theorem dX8_undo_44 : decode cX8_undo 44 = .ok (.ireturn, 1) := by decide +kernel
theorem dX8_type_0 : decode cX8_type 0 = .ok (.iload_n 1, 1) := by decide +kernel
theorem dX8_type_1 : decode cX8_type 1 = .ok (.bipush 32, 2) := by decide +kernel
theorem dX8_type_3 : decode cX8_type 3 = .ok (.bipush 126, 2) := by decide +kernel
theorem dX8_type_5 : decode cX8_type 5 = .ok (.invokestatic 36, 3) := by decide +kernel
theorem dX8_type_8 : decode cX8_type 8 = .ok (.ifCond .ne 6, 3) := by decide +kernel
theorem dX8_type_11 : decode cX8_type 11 = .ok (.ldc 44, 2) := by decide +kernel
theorem dX8_type_13 : decode cX8_type 13 = .ok (.ireturn, 1) := by decide +kernel
theorem dX8_type_14 : decode cX8_type 14 = .ok (.aload_n 0, 1) := by decide +kernel
theorem dX8_type_15 : decode cX8_type 15 = .ok (.getfield 191, 3) := by decide +kernel
theorem dX8_type_18 : decode cX8_type 18 = .ok (.bipush 80, 2) := by decide +kernel
theorem dX8_type_20 : decode cX8_type 20 = .ok (.if_icmp .ne 6, 3) := by decide +kernel
theorem dX8_type_23 : decode cX8_type 23 = .ok (.ldc 54, 2) := by decide +kernel
theorem dX8_type_25 : decode cX8_type 25 = .ok (.ireturn, 1) := by decide +kernel
theorem dX8_type_26 : decode cX8_type 26 = .ok (.aload_n 0, 1) := by decide +kernel
theorem dX8_type_27 : decode cX8_type 27 = .ok (.getfield 19, 3) := by decide +kernel
theorem dX8_type_30 : decode cX8_type 30 = .ok (.aload_n 0, 1) := by decide +kernel
theorem dX8_type_31 : decode cX8_type 31 = .ok (.getfield 191, 3) := by decide +kernel
theorem dX8_type_34 : decode cX8_type 34 = .ok (.iload_n 1, 1) := by decide +kernel
theorem dX8_type_35 : decode cX8_type 35 = .ok (.iastore, 1) := by decide +kernel
theorem dX8_type_36 : decode cX8_type 36 = .ok (.aload_n 0, 1) := by decide +kernel
theorem dX8_type_37 : decode cX8_type 37 = .ok (.dup, 1) := by decide +kernel
theorem dX8_type_38 : decode cX8_type 38 = .ok (.getfield 191, 3) := by decide +kernel
theorem dX8_type_41 : decode cX8_type 41 = .ok (.iconst 1, 1) := by decide +kernel
theorem dX8_type_42 : decode cX8_type 42 = .ok (.iadd, 1) := by decide +kernel
theorem dX8_type_43 : decode cX8_type 43 = .ok (.putfield 191, 3) := by decide +kernel
theorem dX8_type_46 : decode cX8_type 46 = .ok (.aload_n 0, 1) := by decide +kernel
theorem dX8_type_47 : decode cX8_type 47 = .ok (.getfield 191, 3) := by decide +kernel
theorem dX8_type_50 : decode cX8_type 50 = .ok (.ireturn, 1) := by decide +kernel
theorem dX8_clearText_0 : decode cX8_clearText 0 = .ok (.aload_n 0, 1) := by decide +kernel
theorem dX8_clearText_1 : decode cX8_clearText 1 = .ok (.getfield 191, 3) := by decide +kernel
theorem dX8_clearText_4 : decode cX8_clearText 4 = .ok (.istore_n 1, 1) := by decide +kernel
theorem dX8_clearText_5 : decode cX8_clearText 5 = .ok (.aload_n 0, 1) := by decide +kernel
theorem dX8_clearText_6 : decode cX8_clearText 6 = .ok (.iconst 0, 1) := by decide +kernel
theorem dX8_clearText_7 : decode cX8_clearText 7 = .ok (.putfield 191, 3) := by decide +kernel
theorem dX8_clearText_10 : decode cX8_clearText 10 = .ok (.iload_n 1, 1) := by decide +kernel
theorem dX8_clearText_11 : decode cX8_clearText 11 = .ok (.ireturn, 1) := by decide +kernel
theorem dX8_look_0 : decode cX8_look 0 = .ok (.aload_n 0, 1) := by decide +kernel
theorem dX8_look_1 : decode cX8_look 1 = .ok (.getfield 194, 3) := by decide +kernel
theorem dX8_look_4 : decode cX8_look 4 = .ok (.aload_n 0, 1) := by decide +kernel
theorem dX8_look_5 : decode cX8_look 5 = .ok (.getfield 191, 3) := by decide +kernel
theorem dX8_look_8 : decode cX8_look 8 = .ok (.if_icmp .ge 15, 3) := by decide +kernel
theorem dX8_look_11 : decode cX8_look 11 = .ok (.aload_n 0, 1) := by decide +kernel
theorem dX8_look_12 : decode cX8_look 12 = .ok (.getfield 19, 3) := by decide +kernel
theorem dX8_look_15 : decode cX8_look 15 = .ok (.aload_n 0, 1) := by decide +kernel
theorem dX8_look_16 : decode cX8_look 16 = .ok (.getfield 194, 3) := by decide +kernel
theorem dX8_look_19 : decode cX8_look 19 = .ok (.iaload, 1) := by decide +kernel
theorem dX8_look_20 : decode cX8_look 20 = .ok (.goto 5, 3) := by decide +kernel
theorem dX8_look_23 : decode cX8_look 23 = .ok (.ldc 49, 2) := by decide +kernel
theorem dX8_look_25 : decode cX8_look 25 = .ok (.ireturn, 1) := by decide +kernel
theorem dX8_sign_0 : decode cX8_sign 0 = .ok (.aload_n 0, 1) := by decide +kernel
theorem dX8_sign_1 : decode cX8_sign 1 = .ok (.getfield 197, 3) := by decide +kernel
theorem dX8_sign_4 : decode cX8_sign 4 = .ok (.ldc 49, 2) := by decide +kernel
theorem dX8_sign_6 : decode cX8_sign 6 = .ok (.if_icmp .ne 24, 3) := by decide +kernel
theorem dX8_sign_9 : decode cX8_sign 9 = .ok (.aload_n 0, 1) := by decide +kernel
theorem dX8_sign_10 : decode cX8_sign 10 = .ok (.invokevirtual 200, 3) := by decide +kernel
theorem dX8_sign_13 : decode cX8_sign 13 = .ok (.iload_n 1, 1) := by decide +kernel
theorem dX8_sign_14 : decode cX8_sign 14 = .ok (.if_icmp .ne 16, 3) := by decide +kernel
theorem dX8_sign_17 : decode cX8_sign 17 = .ok (.aload_n 0, 1) := by decide +kernel
theorem dX8_sign_18 : decode cX8_sign 18 = .ok (.dup, 1) := by decide +kernel
theorem dX8_sign_19 : decode cX8_sign 19 = .ok (.getfield 194, 3) := by decide +kernel
theorem dX8_sign_22 : decode cX8_sign 22 = .ok (.iconst 1, 1) := by decide +kernel
theorem dX8_sign_23 : decode cX8_sign 23 = .ok (.iadd, 1) := by decide +kernel
theorem dX8_sign_24 : decode cX8_sign 24 = .ok (.putfield 194, 3) := by decide +kernel
theorem dX8_sign_27 : decode cX8_sign 27 = .ok (.goto 20, 3) := by decide +kernel
theorem dX8_sign_30 : decode cX8_sign 30 = .ok (.aload_n 0, 1) := by decide +kernel
theorem dX8_sign_31 : decode cX8_sign 31 = .ok (.getfield 197, 3) := by decide +kernel
theorem dX8_sign_34 : decode cX8_sign 34 = .ok (.ldc 49, 2) := by decide +kernel
theorem dX8_sign_36 : decode cX8_sign 36 = .ok (.if_icmp .ne 11, 3) := by decide +kernel
theorem dX8_sign_39 : decode cX8_sign 39 = .ok (.aload_n 0, 1) := by decide +kernel
theorem dX8_sign_40 : decode cX8_sign 40 = .ok (.aload_n 0, 1) := by decide +kernel
theorem dX8_sign_41 : decode cX8_sign 41 = .ok (.getfield 194, 3) := by decide +kernel
theorem dX8_sign_44 : decode cX8_sign 44 = .ok (.putfield 197, 3) := by decide +kernel
theorem dX8_sign_47 : decode cX8_sign 47 = .ok (.return_, 1) := by decide +kernel
theorem dX8_number_0 : decode cX8_number 0 = .ok (.aload_n 0, 1) := by decide +kernel
theorem dX8_number_1 : decode cX8_number 1 = .ok (.getfield 197, 3) := by decide +kernel
theorem dX8_number_4 : decode cX8_number 4 = .ok (.ldc 49, 2) := by decide +kernel
theorem dX8_number_6 : decode cX8_number 6 = .ok (.if_icmp .ne 16, 3) := by decide +kernel
theorem dX8_number_9 : decode cX8_number 9 = .ok (.aload_n 0, 1) := by decide +kernel
theorem dX8_number_10 : decode cX8_number 10 = .ok (.invokevirtual 200, 3) := by decide +kernel
theorem dX8_number_13 : decode cX8_number 13 = .ok (.bipush 45, 2) := by decide +kernel
theorem dX8_number_15 : decode cX8_number 15 = .ok (.if_icmp .ne 7, 3) := by decide +kernel
theorem dX8_number_18 : decode cX8_number 18 = .ok (.iconst 1, 1) := by decide +kernel
theorem dX8_number_19 : decode cX8_number 19 = .ok (.goto 4, 3) := by decide +kernel
theorem dX8_number_22 : decode cX8_number 22 = .ok (.iconst 0, 1) := by decide +kernel
theorem dX8_number_23 : decode cX8_number 23 = .ok (.istore_n 2, 1) := by decide +kernel
theorem dX8_number_24 : decode cX8_number 24 = .ok (.aload_n 0, 1) := by decide +kernel
theorem dX8_number_25 : decode cX8_number 25 = .ok (.dup, 1) := by decide +kernel
theorem dX8_number_26 : decode cX8_number 26 = .ok (.getfield 194, 3) := by decide +kernel
theorem dX8_number_29 : decode cX8_number 29 = .ok (.iload_n 2, 1) := by decide +kernel
theorem dX8_number_30 : decode cX8_number 30 = .ok (.ifCond .eq 7, 3) := by decide +kernel
theorem dX8_number_33 : decode cX8_number 33 = .ok (.iconst 1, 1) := by decide +kernel
theorem dX8_number_34 : decode cX8_number 34 = .ok (.goto 4, 3) := by decide +kernel
theorem dX8_number_37 : decode cX8_number 37 = .ok (.iconst 0, 1) := by decide +kernel
theorem dX8_number_38 : decode cX8_number 38 = .ok (.iadd, 1) := by decide +kernel
theorem dX8_number_39 : decode cX8_number 39 = .ok (.putfield 194, 3) := by decide +kernel
theorem dX8_number_42 : decode cX8_number 42 = .ok (.aload_n 0, 1) := by decide +kernel
theorem dX8_number_43 : decode cX8_number 43 = .ok (.getfield 194, 3) := by decide +kernel
theorem dX8_number_46 : decode cX8_number 46 = .ok (.istore_n 3, 1) := by decide +kernel
theorem dX8_number_47 : decode cX8_number 47 = .ok (.iconst 0, 1) := by decide +kernel
theorem dX8_number_48 : decode cX8_number 48 = .ok (.istore 4, 2) := by decide +kernel
theorem dX8_number_50 : decode cX8_number 50 = .ok (.aload_n 0, 1) := by decide +kernel
theorem dX8_number_51 : decode cX8_number 51 = .ok (.getfield 197, 3) := by decide +kernel
theorem dX8_number_54 : decode cX8_number 54 = .ok (.ldc 49, 2) := by decide +kernel
theorem dX8_number_56 : decode cX8_number 56 = .ok (.if_icmp .ne 55, 3) := by decide +kernel
theorem dX8_number_59 : decode cX8_number 59 = .ok (.aload_n 0, 1) := by decide +kernel
theorem dX8_number_60 : decode cX8_number 60 = .ok (.getfield 194, 3) := by decide +kernel
theorem dX8_number_63 : decode cX8_number 63 = .ok (.iload_n 3, 1) := by decide +kernel
theorem dX8_number_64 : decode cX8_number 64 = .ok (.isub, 1) := by decide +kernel
theorem dX8_number_65 : decode cX8_number 65 = .ok (.iconst 5, 1) := by decide +kernel
theorem dX8_number_66 : decode cX8_number 66 = .ok (.if_icmp .ge 45, 3) := by decide +kernel
theorem dX8_number_69 : decode cX8_number 69 = .ok (.aload_n 0, 1) := by decide +kernel
theorem dX8_number_70 : decode cX8_number 70 = .ok (.invokevirtual 200, 3) := by decide +kernel
theorem dX8_number_73 : decode cX8_number 73 = .ok (.bipush 48, 2) := by decide +kernel
theorem dX8_number_75 : decode cX8_number 75 = .ok (.bipush 57, 2) := by decide +kernel
theorem dX8_number_77 : decode cX8_number 77 = .ok (.invokestatic 36, 3) := by decide +kernel
theorem dX8_number_80 : decode cX8_number 80 = .ok (.ifCond .eq 31, 3) := by decide +kernel
theorem dX8_number_83 : decode cX8_number 83 = .ok (.bipush 10, 2) := by decide +kernel
theorem dX8_number_85 : decode cX8_number 85 = .ok (.iload 4, 2) := by decide +kernel
theorem dX8_number_87 : decode cX8_number 87 = .ok (.imul, 1) := by decide +kernel
theorem dX8_number_88 : decode cX8_number 88 = .ok (.aload_n 0, 1) := by decide +kernel
theorem dX8_number_89 : decode cX8_number 89 = .ok (.invokevirtual 200, 3) := by decide +kernel
theorem dX8_number_92 : decode cX8_number 92 = .ok (.iadd, 1) := by decide +kernel
theorem dX8_number_93 : decode cX8_number 93 = .ok (.bipush 48, 2) := by decide +kernel
theorem dX8_number_95 : decode cX8_number 95 = .ok (.isub, 1) := by decide +kernel
theorem dX8_number_96 : decode cX8_number 96 = .ok (.istore 4, 2) := by decide +kernel
theorem dX8_number_98 : decode cX8_number 98 = .ok (.aload_n 0, 1) := by decide +kernel
theorem dX8_number_99 : decode cX8_number 99 = .ok (.dup, 1) := by decide +kernel
theorem dX8_number_100 : decode cX8_number 100 = .ok (.getfield 194, 3) := by decide +kernel
theorem dX8_number_103 : decode cX8_number 103 = .ok (.iconst 1, 1) := by decide +kernel
theorem dX8_number_104 : decode cX8_number 104 = .ok (.iadd, 1) := by decide +kernel
theorem dX8_number_105 : decode cX8_number 105 = .ok (.putfield 194, 3) := by decide +kernel
theorem dX8_number_108 : decode cX8_number 108 = .ok (.goto (-58), 3) := by decide +kernel
theorem dX8_number_111 : decode cX8_number 111 = .ok (.aload_n 0, 1) := by decide +kernel
theorem dX8_number_112 : decode cX8_number 112 = .ok (.getfield 197, 3) := by decide +kernel
theorem dX8_number_115 : decode cX8_number 115 = .ok (.ldc 49, 2) := by decide +kernel
theorem dX8_number_117 : decode cX8_number 117 = .ok (.if_icmp .ne 19, 3) := by decide +kernel
theorem dX8_number_120 : decode cX8_number 120 = .ok (.aload_n 0, 1) := by decide +kernel
theorem dX8_number_121 : decode cX8_number 121 = .ok (.getfield 194, 3) := by decide +kernel
theorem dX8_number_124 : decode cX8_number 124 = .ok (.iload_n 3, 1) := by decide +kernel
theorem dX8_number_125 : decode cX8_number 125 = .ok (.if_icmp .ne 11, 3) := by decide +kernel
theorem dX8_number_128 : decode cX8_number 128 = .ok (.aload_n 0, 1) := by decide +kernel
theorem dX8_number_129 : decode cX8_number 129 = .ok (.aload_n 0, 1) := by decide +kernel
theorem dX8_number_130 : decode cX8_number 130 = .ok (.getfield 194, 3) := by decide +kernel
theorem dX8_number_133 : decode cX8_number 133 = .ok (.putfield 197, 3) := by decide +kernel
theorem dX8_number_136 : decode cX8_number 136 = .ok (.aload_n 0, 1) := by decide +kernel
theorem dX8_number_137 : decode cX8_number 137 = .ok (.getfield 25, 3) := by decide +kernel
theorem dX8_number_140 : decode cX8_number 140 = .ok (.iload_n 1, 1) := by decide +kernel
theorem dX8_number_141 : decode cX8_number 141 = .ok (.iload_n 2, 1) := by decide +kernel
theorem dX8_number_142 : decode cX8_number 142 = .ok (.ifCond .eq 9, 3) := by decide +kernel
theorem dX8_number_145 : decode cX8_number 145 = .ok (.iload 4, 2) := by decide +kernel
theorem dX8_number_147 : decode cX8_number 147 = .ok (.ineg, 1) := by decide +kernel
theorem dX8_number_148 : decode cX8_number 148 = .ok (.goto 5, 3) := by decide +kernel
theorem dX8_number_151 : decode cX8_number 151 = .ok (.iload 4, 2) := by decide +kernel
theorem dX8_number_153 : decode cX8_number 153 = .ok (.iastore, 1) := by decide +kernel
theorem dX8_number_154 : decode cX8_number 154 = .ok (.return_, 1) := by decide +kernel
theorem dX8_form_0 : decode cX8_form 0 = .ok (.aload_n 0, 1) := by decide +kernel
theorem dX8_form_1 : decode cX8_form 1 = .ok (.ldc 49, 2) := by decide +kernel
theorem dX8_form_3 : decode cX8_form 3 = .ok (.putfield 197, 3) := by decide +kernel
theorem dX8_form_6 : decode cX8_form 6 = .ok (.aload_n 0, 1) := by decide +kernel
theorem dX8_form_7 : decode cX8_form 7 = .ok (.invokevirtual 200, 3) := by decide +kernel
theorem dX8_form_10 : decode cX8_form 10 = .ok (.istore_n 1, 1) := by decide +kernel
theorem dX8_form_11 : decode cX8_form 11 = .ok (.iload_n 1, 1) := by decide +kernel
theorem dX8_form_12 : decode cX8_form 12 = .ok (.bipush 116, 2) := by decide +kernel
theorem dX8_form_14 : decode cX8_form 14 = .ok (.if_icmp .eq 37, 3) := by decide +kernel
theorem dX8_form_17 : decode cX8_form 17 = .ok (.iload_n 1, 1) := by decide +kernel
theorem dX8_form_18 : decode cX8_form 18 = .ok (.bipush 103, 2) := by decide +kernel
theorem dX8_form_20 : decode cX8_form 20 = .ok (.if_icmp .eq 31, 3) := by decide +kernel
theorem dX8_form_23 : decode cX8_form 23 = .ok (.iload_n 1, 1) := by decide +kernel
theorem dX8_form_24 : decode cX8_form 24 = .ok (.bipush 115, 2) := by decide +kernel
theorem dX8_form_26 : decode cX8_form 26 = .ok (.if_icmp .eq 25, 3) := by decide +kernel
theorem dX8_form_29 : decode cX8_form 29 = .ok (.iload_n 1, 1) := by decide +kernel
theorem dX8_form_30 : decode cX8_form 30 = .ok (.bipush 98, 2) := by decide +kernel
theorem dX8_form_32 : decode cX8_form 32 = .ok (.if_icmp .eq 19, 3) := by decide +kernel
theorem dX8_form_35 : decode cX8_form 35 = .ok (.iload_n 1, 1) := by decide +kernel
theorem dX8_form_36 : decode cX8_form 36 = .ok (.bipush 117, 2) := by decide +kernel
theorem dX8_form_38 : decode cX8_form 38 = .ok (.if_icmp .eq 13, 3) := by decide +kernel
theorem dX8_form_41 : decode cX8_form 41 = .ok (.aload_n 0, 1) := by decide +kernel
theorem dX8_form_42 : decode cX8_form 42 = .ok (.aload_n 0, 1) := by decide +kernel
theorem dX8_form_43 : decode cX8_form 43 = .ok (.getfield 194, 3) := by decide +kernel
theorem dX8_form_46 : decode cX8_form 46 = .ok (.putfield 197, 3) := by decide +kernel
theorem dX8_form_49 : decode cX8_form 49 = .ok (.iload_n 1, 1) := by decide +kernel
theorem dX8_form_50 : decode cX8_form 50 = .ok (.ireturn, 1) := by decide +kernel
theorem dX8_form_51 : decode cX8_form 51 = .ok (.aload_n 0, 1) := by decide +kernel
theorem dX8_form_52 : decode cX8_form 52 = .ok (.dup, 1) := by decide +kernel
theorem dX8_form_53 : decode cX8_form 53 = .ok (.getfield 194, 3) := by decide +kernel
theorem dX8_form_56 : decode cX8_form 56 = .ok (.iconst 1, 1) := by decide +kernel
theorem dX8_form_57 : decode cX8_form 57 = .ok (.iadd, 1) := by decide +kernel
theorem dX8_form_58 : decode cX8_form 58 = .ok (.putfield 194, 3) := by decide +kernel
theorem dX8_form_61 : decode cX8_form 61 = .ok (.iload_n 1, 1) := by decide +kernel
theorem dX8_form_62 : decode cX8_form 62 = .ok (.bipush 115, 2) := by decide +kernel
theorem dX8_form_64 : decode cX8_form 64 = .ok (.if_icmp .eq 8, 3) := by decide +kernel
theorem dX8_form_67 : decode cX8_form 67 = .ok (.aload_n 0, 1) := by decide +kernel
theorem dX8_form_68 : decode cX8_form 68 = .ok (.iconst 0, 1) := by decide +kernel
theorem dX8_form_69 : decode cX8_form 69 = .ok (.invokevirtual 203, 3) := by decide +kernel
theorem dX8_form_72 : decode cX8_form 72 = .ok (.iconst 1, 1) := by decide +kernel
theorem dX8_form_73 : decode cX8_form 73 = .ok (.istore_n 2, 1) := by decide +kernel
theorem dX8_form_74 : decode cX8_form 74 = .ok (.iload_n 2, 1) := by decide +kernel
theorem dX8_form_75 : decode cX8_form 75 = .ok (.bipush 6, 2) := by decide +kernel
theorem dX8_form_77 : decode cX8_form 77 = .ok (.if_icmp .ge 26, 3) := by decide +kernel
theorem dX8_form_80 : decode cX8_form 80 = .ok (.iload_n 1, 1) := by decide +kernel
theorem dX8_form_81 : decode cX8_form 81 = .ok (.bipush 116, 2) := by decide +kernel
theorem dX8_form_83 : decode cX8_form 83 = .ok (.if_icmp .ne 20, 3) := by decide +kernel
theorem dX8_form_86 : decode cX8_form 86 = .ok (.aload_n 0, 1) := by decide +kernel
theorem dX8_form_87 : decode cX8_form 87 = .ok (.bipush 44, 2) := by decide +kernel
theorem dX8_form_89 : decode cX8_form 89 = .ok (.invokevirtual 206, 3) := by decide +kernel
theorem dX8_form_92 : decode cX8_form 92 = .ok (.aload_n 0, 1) := by decide +kernel
theorem dX8_form_93 : decode cX8_form 93 = .ok (.iload_n 2, 1) := by decide +kernel
theorem dX8_form_94 : decode cX8_form 94 = .ok (.invokevirtual 203, 3) := by decide +kernel
theorem dX8_form_97 : decode cX8_form 97 = .ok (.iinc 2 1, 3) := by decide +kernel
theorem dX8_form_100 : decode cX8_form 100 = .ok (.goto (-26), 3) := by decide +kernel
theorem dX8_form_103 : decode cX8_form 103 = .ok (.aload_n 0, 1) := by decide +kernel
theorem dX8_form_104 : decode cX8_form 104 = .ok (.bipush 59, 2) := by decide +kernel
theorem dX8_form_106 : decode cX8_form 106 = .ok (.invokevirtual 206, 3) := by decide +kernel
theorem dX8_form_109 : decode cX8_form 109 = .ok (.iload_n 1, 1) := by decide +kernel
theorem dX8_form_110 : decode cX8_form 110 = .ok (.ireturn, 1) := by decide +kernel
theorem dX8_wrongIn_0 : decode cX8_wrongIn 0 = .ok (.iload_n 1, 1) := by decide +kernel
theorem dX8_wrongIn_1 : decode cX8_wrongIn 1 = .ok (.lookupswitch 101 #[(103, 75), (115, 98), (116, 35)], 35) := by decide +kernel
theorem dX8_wrongIn_36 : decode cX8_wrongIn 36 = .ok (.aload_n 0, 1) := by decide +kernel
theorem dX8_wrongIn_37 : decode cX8_wrongIn 37 = .ok (.getfield 25, 3) := by decide +kernel
theorem dX8_wrongIn_40 : decode cX8_wrongIn 40 = .ok (.iconst 0, 1) := by decide +kernel
theorem dX8_wrongIn_41 : decode cX8_wrongIn 41 = .ok (.iaload, 1) := by decide +kernel
theorem dX8_wrongIn_42 : decode cX8_wrongIn 42 = .ok (.aload_n 0, 1) := by decide +kernel
theorem dX8_wrongIn_43 : decode cX8_wrongIn 43 = .ok (.getfield 25, 3) := by decide +kernel
theorem dX8_wrongIn_46 : decode cX8_wrongIn 46 = .ok (.iconst 1, 1) := by decide +kernel
theorem dX8_wrongIn_47 : decode cX8_wrongIn 47 = .ok (.iaload, 1) := by decide +kernel
theorem dX8_wrongIn_48 : decode cX8_wrongIn 48 = .ok (.aload_n 0, 1) := by decide +kernel
theorem dX8_wrongIn_49 : decode cX8_wrongIn 49 = .ok (.getfield 25, 3) := by decide +kernel
theorem dX8_wrongIn_52 : decode cX8_wrongIn 52 = .ok (.iconst 2, 1) := by decide +kernel
theorem dX8_wrongIn_53 : decode cX8_wrongIn 53 = .ok (.iaload, 1) := by decide +kernel
theorem dX8_wrongIn_54 : decode cX8_wrongIn 54 = .ok (.aload_n 0, 1) := by decide +kernel
theorem dX8_wrongIn_55 : decode cX8_wrongIn 55 = .ok (.getfield 25, 3) := by decide +kernel
theorem dX8_wrongIn_58 : decode cX8_wrongIn 58 = .ok (.iconst 3, 1) := by decide +kernel
theorem dX8_wrongIn_59 : decode cX8_wrongIn 59 = .ok (.iaload, 1) := by decide +kernel
theorem dX8_wrongIn_60 : decode cX8_wrongIn 60 = .ok (.aload_n 0, 1) := by decide +kernel
theorem dX8_wrongIn_61 : decode cX8_wrongIn 61 = .ok (.getfield 25, 3) := by decide +kernel
theorem dX8_wrongIn_64 : decode cX8_wrongIn 64 = .ok (.iconst 4, 1) := by decide +kernel
theorem dX8_wrongIn_65 : decode cX8_wrongIn 65 = .ok (.iaload, 1) := by decide +kernel
theorem dX8_wrongIn_66 : decode cX8_wrongIn 66 = .ok (.aload_n 0, 1) := by decide +kernel
theorem dX8_wrongIn_67 : decode cX8_wrongIn 67 = .ok (.getfield 25, 3) := by decide +kernel
theorem dX8_wrongIn_70 : decode cX8_wrongIn 70 = .ok (.iconst 5, 1) := by decide +kernel
theorem dX8_wrongIn_71 : decode cX8_wrongIn 71 = .ok (.iaload, 1) := by decide +kernel
theorem dX8_wrongIn_72 : decode cX8_wrongIn 72 = .ok (.invokestatic 50, 3) := by decide +kernel
theorem dX8_wrongIn_75 : decode cX8_wrongIn 75 = .ok (.ireturn, 1) := by decide +kernel
theorem dX8_wrongIn_76 : decode cX8_wrongIn 76 = .ok (.aload_n 0, 1) := by decide +kernel
theorem dX8_wrongIn_77 : decode cX8_wrongIn 77 = .ok (.getfield 25, 3) := by decide +kernel
theorem dX8_wrongIn_80 : decode cX8_wrongIn 80 = .ok (.iconst 0, 1) := by decide +kernel
theorem dX8_wrongIn_81 : decode cX8_wrongIn 81 = .ok (.iaload, 1) := by decide +kernel
theorem dX8_wrongIn_82 : decode cX8_wrongIn 82 = .ok (.iconst 1, 1) := by decide +kernel
theorem dX8_wrongIn_83 : decode cX8_wrongIn 83 = .ok (.sipush 200, 3) := by decide +kernel
theorem dX8_wrongIn_86 : decode cX8_wrongIn 86 = .ok (.invokestatic 36, 3) := by decide +kernel
theorem dX8_wrongIn_89 : decode cX8_wrongIn 89 = .ok (.ifCond .eq 8, 3) := by decide +kernel
theorem dX8_wrongIn_92 : decode cX8_wrongIn 92 = .ok (.ldc 49, 2) := by decide +kernel
theorem dX8_wrongIn_94 : decode cX8_wrongIn 94 = .ok (.goto 4, 3) := by decide +kernel
theorem dX8_wrongIn_97 : decode cX8_wrongIn 97 = .ok (.iconst 0, 1) := by decide +kernel
theorem dX8_wrongIn_98 : decode cX8_wrongIn 98 = .ok (.ireturn, 1) := by decide +kernel
theorem dX8_wrongIn_99 : decode cX8_wrongIn 99 = .ok (.ldc 49, 2) := by decide +kernel
theorem dX8_wrongIn_101 : decode cX8_wrongIn 101 = .ok (.ireturn, 1) := by decide +kernel
theorem dX8_wrongIn_102 : decode cX8_wrongIn 102 = .ok (.aload_n 0, 1) := by decide +kernel
theorem dX8_wrongIn_103 : decode cX8_wrongIn 103 = .ok (.getfield 25, 3) := by decide +kernel
theorem dX8_wrongIn_106 : decode cX8_wrongIn 106 = .ok (.iconst 0, 1) := by decide +kernel
theorem dX8_wrongIn_107 : decode cX8_wrongIn 107 = .ok (.iaload, 1) := by decide +kernel
theorem dX8_wrongIn_108 : decode cX8_wrongIn 108 = .ok (.iconst 0, 1) := by decide +kernel
theorem dX8_wrongIn_109 : decode cX8_wrongIn 109 = .ok (.bipush 9, 2) := by decide +kernel
theorem dX8_wrongIn_111 : decode cX8_wrongIn 111 = .ok (.invokestatic 36, 3) := by decide +kernel
theorem dX8_wrongIn_114 : decode cX8_wrongIn 114 = .ok (.ifCond .eq 8, 3) := by decide +kernel
theorem dX8_wrongIn_117 : decode cX8_wrongIn 117 = .ok (.ldc 49, 2) := by decide +kernel
theorem dX8_wrongIn_119 : decode cX8_wrongIn 119 = .ok (.goto 4, 3) := by decide +kernel
theorem dX8_wrongIn_122 : decode cX8_wrongIn 122 = .ok (.iconst 0, 1) := by decide +kernel
theorem dX8_wrongIn_123 : decode cX8_wrongIn 123 = .ok (.ireturn, 1) := by decide +kernel
theorem dX8_can_0 : decode cX8_can 0 = .ok (.iload_n 1, 1) := by decide +kernel
theorem dX8_can_1 : decode cX8_can 1 = .ok (.lookupswitch 69 #[(103, 49), (115, 67), (116, 35)], 35) := by decide +kernel
theorem dX8_can_36 : decode cX8_can 36 = .ok (.aload_n 0, 1) := by decide +kernel
theorem dX8_can_37 : decode cX8_can 37 = .ok (.bipush 8, 2) := by decide +kernel
theorem dX8_can_39 : decode cX8_can 39 = .ok (.iaload, 1) := by decide +kernel
theorem dX8_can_40 : decode cX8_can 40 = .ok (.iconst 4, 1) := by decide +kernel
theorem dX8_can_41 : decode cX8_can 41 = .ok (.if_icmp .ge 7, 3) := by decide +kernel
theorem dX8_can_44 : decode cX8_can 44 = .ok (.iconst 1, 1) := by decide +kernel
theorem dX8_can_45 : decode cX8_can 45 = .ok (.goto 4, 3) := by decide +kernel
theorem dX8_can_48 : decode cX8_can 48 = .ok (.iconst 0, 1) := by decide +kernel
theorem dX8_can_49 : decode cX8_can 49 = .ok (.ireturn, 1) := by decide +kernel
theorem dX8_can_50 : decode cX8_can 50 = .ok (.aload_n 0, 1) := by decide +kernel
theorem dX8_can_51 : decode cX8_can 51 = .ok (.bipush 33, 2) := by decide +kernel
theorem dX8_can_53 : decode cX8_can 53 = .ok (.iaload, 1) := by decide +kernel
theorem dX8_can_54 : decode cX8_can 54 = .ok (.iload_n 2, 1) := by decide +kernel
theorem dX8_can_55 : decode cX8_can 55 = .ok (.iadd, 1) := by decide +kernel
theorem dX8_can_56 : decode cX8_can 56 = .ok (.sipush 20000, 3) := by decide +kernel
theorem dX8_can_59 : decode cX8_can 59 = .ok (.if_icmp .gt 7, 3) := by decide +kernel
theorem dX8_can_62 : decode cX8_can 62 = .ok (.iconst 1, 1) := by decide +kernel
theorem dX8_can_63 : decode cX8_can 63 = .ok (.goto 4, 3) := by decide +kernel
theorem dX8_can_66 : decode cX8_can 66 = .ok (.iconst 0, 1) := by decide +kernel
theorem dX8_can_67 : decode cX8_can 67 = .ok (.ireturn, 1) := by decide +kernel
theorem dX8_can_68 : decode cX8_can 68 = .ok (.iconst 1, 1) := by decide +kernel
theorem dX8_can_69 : decode cX8_can 69 = .ok (.ireturn, 1) := by decide +kernel
theorem dX8_can_70 : decode cX8_can 70 = .ok (.aload_n 0, 1) := by decide +kernel
theorem dX8_can_71 : decode cX8_can 71 = .ok (.bipush 34, 2) := by decide +kernel
theorem dX8_can_73 : decode cX8_can 73 = .ok (.iaload, 1) := by decide +kernel
theorem dX8_can_74 : decode cX8_can 74 = .ok (.iload_n 2, 1) := by decide +kernel
theorem dX8_can_75 : decode cX8_can 75 = .ok (.invokestatic 104, 3) := by decide +kernel
theorem dX8_can_78 : decode cX8_can 78 = .ok (.iload_n 1, 1) := by decide +kernel
theorem dX8_can_79 : decode cX8_can 79 = .ok (.bipush 117, 2) := by decide +kernel
theorem dX8_can_81 : decode cX8_can 81 = .ok (.if_icmp .ne 7, 3) := by decide +kernel
theorem dX8_can_84 : decode cX8_can 84 = .ok (.iconst 1, 1) := by decide +kernel
theorem dX8_can_85 : decode cX8_can 85 = .ok (.goto 4, 3) := by decide +kernel
theorem dX8_can_88 : decode cX8_can 88 = .ok (.iconst 0, 1) := by decide +kernel
theorem dX8_can_89 : decode cX8_can 89 = .ok (.if_icmp .ne 7, 3) := by decide +kernel
theorem dX8_can_92 : decode cX8_can 92 = .ok (.iconst 1, 1) := by decide +kernel
theorem dX8_can_93 : decode cX8_can 93 = .ok (.goto 4, 3) := by decide +kernel
theorem dX8_can_96 : decode cX8_can 96 = .ok (.iconst 0, 1) := by decide +kernel
theorem dX8_can_97 : decode cX8_can 97 = .ok (.ireturn, 1) := by decide +kernel
theorem dX8_does_0 : decode cX8_does 0 = .ok (.iload_n 2, 1) := by decide +kernel
theorem dX8_does_1 : decode cX8_does 1 = .ok (.lookupswitch 101 #[(103, 78), (115, 94), (116, 35)], 35) := by decide +kernel
theorem dX8_does_36 : decode cX8_does 36 = .ok (.aload_n 1, 1) := by decide +kernel
theorem dX8_does_37 : decode cX8_does 37 = .ok (.aload_n 0, 1) := by decide +kernel
theorem dX8_does_38 : decode cX8_does 38 = .ok (.getfield 25, 3) := by decide +kernel
theorem dX8_does_41 : decode cX8_does 41 = .ok (.iconst 0, 1) := by decide +kernel
theorem dX8_does_42 : decode cX8_does 42 = .ok (.iaload, 1) := by decide +kernel
theorem dX8_does_43 : decode cX8_does 43 = .ok (.aload_n 0, 1) := by decide +kernel
theorem dX8_does_44 : decode cX8_does 44 = .ok (.getfield 25, 3) := by decide +kernel
theorem dX8_does_47 : decode cX8_does 47 = .ok (.iconst 1, 1) := by decide +kernel
theorem dX8_does_48 : decode cX8_does 48 = .ok (.iaload, 1) := by decide +kernel
theorem dX8_does_49 : decode cX8_does 49 = .ok (.aload_n 0, 1) := by decide +kernel
theorem dX8_does_50 : decode cX8_does 50 = .ok (.getfield 25, 3) := by decide +kernel
theorem dX8_does_53 : decode cX8_does 53 = .ok (.iconst 2, 1) := by decide +kernel
theorem dX8_does_54 : decode cX8_does 54 = .ok (.iaload, 1) := by decide +kernel
theorem dX8_does_55 : decode cX8_does 55 = .ok (.aload_n 0, 1) := by decide +kernel
theorem dX8_does_56 : decode cX8_does 56 = .ok (.getfield 25, 3) := by decide +kernel
theorem dX8_does_59 : decode cX8_does 59 = .ok (.iconst 3, 1) := by decide +kernel
theorem dX8_does_60 : decode cX8_does 60 = .ok (.iaload, 1) := by decide +kernel
theorem dX8_does_61 : decode cX8_does 61 = .ok (.aload_n 0, 1) := by decide +kernel
theorem dX8_does_62 : decode cX8_does 62 = .ok (.getfield 25, 3) := by decide +kernel
theorem dX8_does_65 : decode cX8_does 65 = .ok (.iconst 4, 1) := by decide +kernel
theorem dX8_does_66 : decode cX8_does 66 = .ok (.iaload, 1) := by decide +kernel
theorem dX8_does_67 : decode cX8_does 67 = .ok (.aload_n 0, 1) := by decide +kernel
theorem dX8_does_68 : decode cX8_does 68 = .ok (.getfield 25, 3) := by decide +kernel
theorem dX8_does_71 : decode cX8_does 71 = .ok (.iconst 5, 1) := by decide +kernel
theorem dX8_does_72 : decode cX8_does 72 = .ok (.iaload, 1) := by decide +kernel
theorem dX8_does_73 : decode cX8_does 73 = .ok (.invokestatic 55, 3) := by decide +kernel
theorem dX8_does_76 : decode cX8_does 76 = .ok (.goto 41, 3) := by decide +kernel
theorem dX8_does_79 : decode cX8_does 79 = .ok (.aload_n 1, 1) := by decide +kernel
theorem dX8_does_80 : decode cX8_does 80 = .ok (.bipush 33, 2) := by decide +kernel
theorem dX8_does_82 : decode cX8_does 82 = .ok (.dup2, 1) := by decide +kernel
theorem dX8_does_83 : decode cX8_does 83 = .ok (.iaload, 1) := by decide +kernel
theorem dX8_does_84 : decode cX8_does 84 = .ok (.aload_n 0, 1) := by decide +kernel
theorem dX8_does_85 : decode cX8_does 85 = .ok (.getfield 25, 3) := by decide +kernel
theorem dX8_does_88 : decode cX8_does 88 = .ok (.iconst 0, 1) := by decide +kernel
theorem dX8_does_89 : decode cX8_does 89 = .ok (.iaload, 1) := by decide +kernel
theorem dX8_does_90 : decode cX8_does 90 = .ok (.iadd, 1) := by decide +kernel
theorem dX8_does_91 : decode cX8_does 91 = .ok (.iastore, 1) := by decide +kernel
theorem dX8_does_92 : decode cX8_does 92 = .ok (.goto 25, 3) := by decide +kernel
theorem dX8_does_95 : decode cX8_does 95 = .ok (.aload_n 1, 1) := by decide +kernel
theorem dX8_does_96 : decode cX8_does 96 = .ok (.invokestatic 93, 3) := by decide +kernel
theorem dX8_does_99 : decode cX8_does 99 = .ok (.goto 18, 3) := by decide +kernel
theorem dX8_does_102 : decode cX8_does 102 = .ok (.aload_n 1, 1) := by decide +kernel
theorem dX8_does_103 : decode cX8_does 103 = .ok (.bipush 34, 2) := by decide +kernel
theorem dX8_does_105 : decode cX8_does 105 = .ok (.dup2, 1) := by decide +kernel
theorem dX8_does_106 : decode cX8_does 106 = .ok (.iaload, 1) := by decide +kernel
theorem dX8_does_107 : decode cX8_does 107 = .ok (.iconst 1, 1) := by decide +kernel
theorem dX8_does_108 : decode cX8_does 108 = .ok (.aload_n 0, 1) := by decide +kernel
theorem dX8_does_109 : decode cX8_does 109 = .ok (.getfield 25, 3) := by decide +kernel
theorem dX8_does_112 : decode cX8_does 112 = .ok (.iconst 0, 1) := by decide +kernel
theorem dX8_does_113 : decode cX8_does 113 = .ok (.iaload, 1) := by decide +kernel
theorem dX8_does_114 : decode cX8_does 114 = .ok (.ishl, 1) := by decide +kernel
theorem dX8_does_115 : decode cX8_does 115 = .ok (.ixor, 1) := by decide +kernel
theorem dX8_does_116 : decode cX8_does 116 = .ok (.iastore, 1) := by decide +kernel
theorem dX8_does_117 : decode cX8_does 117 = .ok (.return_, 1) := by decide +kernel
theorem dX8_faults_0 : decode cX8_faults 0 = .ok (.aload_n 0, 1) := by decide +kernel
theorem dX8_faults_1 : decode cX8_faults 1 = .ok (.iload_n 1, 1) := by decide +kernel
theorem dX8_faults_2 : decode cX8_faults 2 = .ok (.putfield 209, 3) := by decide +kernel
theorem dX8_faults_5 : decode cX8_faults 5 = .ok (.aload_n 0, 1) := by decide +kernel
theorem dX8_faults_6 : decode cX8_faults 6 = .ok (.iload_n 2, 1) := by decide +kernel
theorem dX8_faults_7 : decode cX8_faults 7 = .ok (.putfield 212, 3) := by decide +kernel
theorem dX8_faults_10 : decode cX8_faults 10 = .ok (.aload_n 0, 1) := by decide +kernel
theorem dX8_faults_11 : decode cX8_faults 11 = .ok (.iload_n 3, 1) := by decide +kernel
theorem dX8_faults_12 : decode cX8_faults 12 = .ok (.putfield 215, 3) := by decide +kernel
theorem dX8_faults_15 : decode cX8_faults 15 = .ok (.return_, 1) := by decide +kernel
theorem dX8_done_0 : decode cX8_done 0 = .ok (.aload_n 0, 1) := by decide +kernel
theorem dX8_done_1 : decode cX8_done 1 = .ok (.getfield 7, 3) := by decide +kernel
theorem dX8_done_4 : decode cX8_done 4 = .ok (.iconst 0, 1) := by decide +kernel
theorem dX8_done_5 : decode cX8_done 5 = .ok (.aload_n 0, 1) := by decide +kernel
theorem dX8_done_6 : decode cX8_done 6 = .ok (.getfield 16, 3) := by decide +kernel
theorem dX8_done_9 : decode cX8_done 9 = .ok (.iconst 0, 1) := by decide +kernel
theorem dX8_done_10 : decode cX8_done 10 = .ok (.invokestatic 32, 3) := by decide +kernel
theorem dX8_done_13 : decode cX8_done 13 = .ok (.aload_n 0, 1) := by decide +kernel
theorem dX8_done_14 : decode cX8_done 14 = .ok (.ldc 49, 2) := by decide +kernel
theorem dX8_done_16 : decode cX8_done 16 = .ok (.iconst 0, 1) := by decide +kernel
theorem dX8_done_17 : decode cX8_done 17 = .ok (.ldc 49, 2) := by decide +kernel
theorem dX8_done_19 : decode cX8_done 19 = .ok (.invokevirtual 218, 3) := by decide +kernel
theorem dX8_done_22 : decode cX8_done 22 = .ok (.aload_n 0, 1) := by decide +kernel
theorem dX8_done_23 : decode cX8_done 23 = .ok (.iconst 0, 1) := by decide +kernel
theorem dX8_done_24 : decode cX8_done 24 = .ok (.putfield 194, 3) := by decide +kernel
theorem dX8_done_27 : decode cX8_done 27 = .ok (.iconst 0, 1) := by decide +kernel
theorem dX8_done_28 : decode cX8_done 28 = .ok (.istore_n 1, 1) := by decide +kernel
theorem dX8_done_29 : decode cX8_done 29 = .ok (.aload_n 0, 1) := by decide +kernel
theorem dX8_done_30 : decode cX8_done 30 = .ok (.getfield 212, 3) := by decide +kernel
theorem dX8_done_33 : decode cX8_done 33 = .ok (.ifCond .ne 130, 3) := by decide +kernel
theorem dX8_done_36 : decode cX8_done 36 = .ok (.aload_n 0, 1) := by decide +kernel
theorem dX8_done_37 : decode cX8_done 37 = .ok (.getfield 194, 3) := by decide +kernel
theorem dX8_done_40 : decode cX8_done 40 = .ok (.aload_n 0, 1) := by decide +kernel
theorem dX8_done_41 : decode cX8_done 41 = .ok (.getfield 191, 3) := by decide +kernel
theorem dX8_done_44 : decode cX8_done 44 = .ok (.if_icmp .ge 119, 3) := by decide +kernel
theorem dX8_done_47 : decode cX8_done 47 = .ok (.aload_n 0, 1) := by decide +kernel
theorem dX8_done_48 : decode cX8_done 48 = .ok (.getfield 194, 3) := by decide +kernel
theorem dX8_done_51 : decode cX8_done 51 = .ok (.istore_n 2, 1) := by decide +kernel
theorem dX8_done_52 : decode cX8_done 52 = .ok (.aload_n 0, 1) := by decide +kernel
theorem dX8_done_53 : decode cX8_done 53 = .ok (.invokevirtual 222, 3) := by decide +kernel
theorem dX8_done_56 : decode cX8_done 56 = .ok (.istore_n 3, 1) := by decide +kernel
theorem dX8_done_57 : decode cX8_done 57 = .ok (.aload_n 0, 1) := by decide +kernel
theorem dX8_done_58 : decode cX8_done 58 = .ok (.getfield 197, 3) := by decide +kernel
theorem dX8_done_61 : decode cX8_done 61 = .ok (.ldc 49, 2) := by decide +kernel
theorem dX8_done_63 : decode cX8_done 63 = .ok (.if_icmp .ne 11, 3) := by decide +kernel
theorem dX8_done_66 : decode cX8_done 66 = .ok (.aload_n 0, 1) := by decide +kernel
theorem dX8_done_67 : decode cX8_done 67 = .ok (.iload_n 3, 1) := by decide +kernel
theorem dX8_done_68 : decode cX8_done 68 = .ok (.invokevirtual 225, 3) := by decide +kernel
theorem dX8_done_71 : decode cX8_done 71 = .ok (.goto 5, 3) := by decide +kernel
theorem dX8_done_74 : decode cX8_done 74 = .ok (.ldc 49, 2) := by decide +kernel
theorem dX8_done_76 : decode cX8_done 76 = .ok (.istore 4, 2) := by decide +kernel
theorem dX8_done_78 : decode cX8_done 78 = .ok (.aload_n 0, 1) := by decide +kernel
theorem dX8_done_79 : decode cX8_done 79 = .ok (.getfield 197, 3) := by decide +kernel
theorem dX8_done_82 : decode cX8_done 82 = .ok (.ldc 49, 2) := by decide +kernel
theorem dX8_done_84 : decode cX8_done 84 = .ok (.if_icmp .eq 18, 3) := by decide +kernel
theorem dX8_done_87 : decode cX8_done 87 = .ok (.aload_n 0, 1) := by decide +kernel
theorem dX8_done_88 : decode cX8_done 88 = .ok (.iload_n 2, 1) := by decide +kernel
theorem dX8_done_89 : decode cX8_done 89 = .ok (.iconst 1, 1) := by decide +kernel
theorem dX8_done_90 : decode cX8_done 90 = .ok (.aload_n 0, 1) := by decide +kernel
theorem dX8_done_91 : decode cX8_done 91 = .ok (.getfield 197, 3) := by decide +kernel
theorem dX8_done_94 : decode cX8_done 94 = .ok (.iload_n 2, 1) := by decide +kernel
theorem dX8_done_95 : decode cX8_done 95 = .ok (.isub, 1) := by decide +kernel
theorem dX8_done_96 : decode cX8_done 96 = .ok (.invokevirtual 218, 3) := by decide +kernel
theorem dX8_done_99 : decode cX8_done 99 = .ok (.goto 61, 3) := by decide +kernel
theorem dX8_done_102 : decode cX8_done 102 = .ok (.iload 4, 2) := by decide +kernel
theorem dX8_done_104 : decode cX8_done 104 = .ok (.ldc 49, 2) := by decide +kernel
theorem dX8_done_106 : decode cX8_done 106 = .ok (.if_icmp .eq 14, 3) := by decide +kernel
theorem dX8_done_109 : decode cX8_done 109 = .ok (.aload_n 0, 1) := by decide +kernel
theorem dX8_done_110 : decode cX8_done 110 = .ok (.iload_n 2, 1) := by decide +kernel
theorem dX8_done_111 : decode cX8_done 111 = .ok (.iconst 2, 1) := by decide +kernel
theorem dX8_done_112 : decode cX8_done 112 = .ok (.iload 4, 2) := by decide +kernel
theorem dX8_done_114 : decode cX8_done 114 = .ok (.invokevirtual 218, 3) := by decide +kernel
theorem dX8_done_117 : decode cX8_done 117 = .ok (.goto 43, 3) := by decide +kernel
theorem dX8_done_120 : decode cX8_done 120 = .ok (.aload_n 0, 1) := by decide +kernel
theorem dX8_done_121 : decode cX8_done 121 = .ok (.getfield 16, 3) := by decide +kernel
theorem dX8_done_124 : decode cX8_done 124 = .ok (.iload_n 3, 1) := by decide +kernel
theorem dX8_done_125 : decode cX8_done 125 = .ok (.aload_n 0, 1) := by decide +kernel
theorem dX8_done_126 : decode cX8_done 126 = .ok (.getfield 25, 3) := by decide +kernel
theorem dX8_done_129 : decode cX8_done 129 = .ok (.iconst 0, 1) := by decide +kernel
theorem dX8_done_130 : decode cX8_done 130 = .ok (.iaload, 1) := by decide +kernel
theorem dX8_done_131 : decode cX8_done 131 = .ok (.invokestatic 228, 3) := by decide +kernel
theorem dX8_done_134 : decode cX8_done 134 = .ok (.ifCond .ne 14, 3) := by decide +kernel
theorem dX8_done_137 : decode cX8_done 137 = .ok (.aload_n 0, 1) := by decide +kernel
theorem dX8_done_138 : decode cX8_done 138 = .ok (.iload_n 2, 1) := by decide +kernel
theorem dX8_done_139 : decode cX8_done 139 = .ok (.iconst 3, 1) := by decide +kernel
theorem dX8_done_140 : decode cX8_done 140 = .ok (.ldc 49, 2) := by decide +kernel
theorem dX8_done_142 : decode cX8_done 142 = .ok (.invokevirtual 218, 3) := by decide +kernel
theorem dX8_done_145 : decode cX8_done 145 = .ok (.goto 15, 3) := by decide +kernel
theorem dX8_done_148 : decode cX8_done 148 = .ok (.aload_n 0, 1) := by decide +kernel
theorem dX8_done_149 : decode cX8_done 149 = .ok (.aload_n 0, 1) := by decide +kernel
theorem dX8_done_150 : decode cX8_done 150 = .ok (.getfield 16, 3) := by decide +kernel
theorem dX8_done_153 : decode cX8_done 153 = .ok (.iload_n 3, 1) := by decide +kernel
theorem dX8_done_154 : decode cX8_done 154 = .ok (.invokevirtual 231, 3) := by decide +kernel
theorem dX8_done_157 : decode cX8_done 157 = .ok (.iinc 1 1, 3) := by decide +kernel
theorem dX8_done_160 : decode cX8_done 160 = .ok (.goto (-131), 3) := by decide +kernel
theorem dX8_done_163 : decode cX8_done 163 = .ok (.iload_n 1, 1) := by decide +kernel
theorem dX8_done_164 : decode cX8_done 164 = .ok (.ireturn, 1) := by decide +kernel
theorem dX8_fault_0 : decode cX8_fault 0 = .ok (.iload_n 1, 1) := by decide +kernel
theorem dX8_fault_1 : decode cX8_fault 1 = .ok (.iconst 0, 1) := by decide +kernel
theorem dX8_fault_2 : decode cX8_fault 2 = .ok (.iconst 2, 1) := by decide +kernel
theorem dX8_fault_3 : decode cX8_fault 3 = .ok (.invokestatic 36, 3) := by decide +kernel
theorem dX8_fault_6 : decode cX8_fault 6 = .ok (.ifCond .ne 6, 3) := by decide +kernel
theorem dX8_fault_9 : decode cX8_fault 9 = .ok (.ldc 44, 2) := by decide +kernel
theorem dX8_fault_11 : decode cX8_fault 11 = .ok (.ireturn, 1) := by decide +kernel
theorem dX8_fault_12 : decode cX8_fault 12 = .ok (.aload_n 0, 1) := by decide +kernel
theorem dX8_fault_13 : decode cX8_fault 13 = .ok (.invokevirtual 234, 3) := by decide +kernel
theorem dX8_fault_16 : decode cX8_fault 16 = .ok (.pop, 1) := by decide +kernel
theorem dX8_fault_17 : decode cX8_fault 17 = .ok (.aload_n 0, 1) := by decide +kernel
theorem dX8_fault_18 : decode cX8_fault 18 = .ok (.getfield 212, 3) := by decide +kernel
theorem dX8_fault_21 : decode cX8_fault 21 = .ok (.ifCond .eq 17, 3) := by decide +kernel
theorem dX8_fault_24 : decode cX8_fault 24 = .ok (.iload_n 1, 1) := by decide +kernel
theorem dX8_fault_25 : decode cX8_fault 25 = .ok (.iconst 2, 1) := by decide +kernel
theorem dX8_fault_26 : decode cX8_fault 26 = .ok (.if_icmp .ne 15, 3) := by decide +kernel
theorem dX8_fault_29 : decode cX8_fault 29 = .ok (.aload_n 0, 1) := by decide +kernel
theorem dX8_fault_30 : decode cX8_fault 30 = .ok (.getfield 215, 3) := by decide +kernel
theorem dX8_fault_33 : decode cX8_fault 33 = .ok (.ldc 49, 2) := by decide +kernel
theorem dX8_fault_35 : decode cX8_fault 35 = .ok (.if_icmp .ne 6, 3) := by decide +kernel
theorem dX8_fault_38 : decode cX8_fault 38 = .ok (.ldc 120, 2) := by decide +kernel
theorem dX8_fault_40 : decode cX8_fault 40 = .ok (.ireturn, 1) := by decide +kernel
theorem dX8_fault_41 : decode cX8_fault 41 = .ok (.iload_n 1, 1) := by decide +kernel
theorem dX8_fault_42 : decode cX8_fault 42 = .ok (.ifCond .ne 10, 3) := by decide +kernel
theorem dX8_fault_45 : decode cX8_fault 45 = .ok (.aload_n 0, 1) := by decide +kernel
theorem dX8_fault_46 : decode cX8_fault 46 = .ok (.getfield 209, 3) := by decide +kernel
theorem dX8_fault_49 : decode cX8_fault 49 = .ok (.goto 19, 3) := by decide +kernel
theorem dX8_fault_52 : decode cX8_fault 52 = .ok (.iload_n 1, 1) := by decide +kernel
theorem dX8_fault_53 : decode cX8_fault 53 = .ok (.iconst 1, 1) := by decide +kernel
theorem dX8_fault_54 : decode cX8_fault 54 = .ok (.if_icmp .ne 10, 3) := by decide +kernel
theorem dX8_fault_57 : decode cX8_fault 57 = .ok (.aload_n 0, 1) := by decide +kernel
theorem dX8_fault_58 : decode cX8_fault 58 = .ok (.getfield 212, 3) := by decide +kernel
theorem dX8_fault_61 : decode cX8_fault 61 = .ok (.goto 7, 3) := by decide +kernel
theorem dX8_fault_64 : decode cX8_fault 64 = .ok (.aload_n 0, 1) := by decide +kernel
theorem dX8_fault_65 : decode cX8_fault 65 = .ok (.getfield 215, 3) := by decide +kernel
theorem dX8_fault_68 : decode cX8_fault 68 = .ok (.ireturn, 1) := by decide +kernel
theorem dX8_play_0 : decode cX8_play 0 = .ok (.aload_n 0, 1) := by decide +kernel
theorem dX8_play_1 : decode cX8_play 1 = .ok (.invokevirtual 234, 3) := by decide +kernel
theorem dX8_play_4 : decode cX8_play 4 = .ok (.istore_n 1, 1) := by decide +kernel
theorem dX8_play_5 : decode cX8_play 5 = .ok (.aload_n 0, 1) := by decide +kernel
theorem dX8_play_6 : decode cX8_play 6 = .ok (.getfield 212, 3) := by decide +kernel
theorem dX8_play_9 : decode cX8_play 9 = .ok (.ifCond .eq 6, 3) := by decide +kernel
theorem dX8_play_12 : decode cX8_play 12 = .ok (.ldc 45, 2) := by decide +kernel
theorem dX8_play_14 : decode cX8_play 14 = .ok (.ireturn, 1) := by decide +kernel
theorem dX8_play_15 : decode cX8_play 15 = .ok (.aload_n 0, 1) := by decide +kernel
theorem dX8_play_16 : decode cX8_play 16 = .ok (.invokevirtual 46, 3) := by decide +kernel
theorem dX8_play_19 : decode cX8_play 19 = .ok (.aload_n 0, 1) := by decide +kernel
theorem dX8_play_20 : decode cX8_play 20 = .ok (.getfield 16, 3) := by decide +kernel
theorem dX8_play_23 : decode cX8_play 23 = .ok (.iconst 0, 1) := by decide +kernel
theorem dX8_play_24 : decode cX8_play 24 = .ok (.aload_n 0, 1) := by decide +kernel
theorem dX8_play_25 : decode cX8_play 25 = .ok (.getfield 7, 3) := by decide +kernel
theorem dX8_play_28 : decode cX8_play 28 = .ok (.iconst 0, 1) := by decide +kernel
theorem dX8_play_29 : decode cX8_play 29 = .ok (.invokestatic 32, 3) := by decide +kernel
theorem dX8_play_32 : decode cX8_play 32 = .ok (.iload_n 1, 1) := by decide +kernel
theorem dX8_play_33 : decode cX8_play 33 = .ok (.ireturn, 1) := by decide +kernel
end
section
theorem dL_law_0 : decode cL_law 0 = .ok (.new 7, 3) := by decide +kernel
theorem dL_law_3 : decode cL_law 3 = .ok (.dup, 1) := by decide +kernel
theorem dL_law_4 : decode cL_law 4 = .ok (.invokespecial 9, 3) := by decide +kernel
theorem dL_law_7 : decode cL_law 7 = .ok (.astore_n 1, 1) := by decide +kernel
theorem dL_law_8 : decode cL_law 8 = .ok (.new 10, 3) := by decide +kernel
theorem dL_law_11 : decode cL_law 11 = .ok (.dup, 1) := by decide +kernel
theorem dL_law_12 : decode cL_law 12 = .ok (.invokespecial 12, 3) := by decide +kernel
theorem dL_law_15 : decode cL_law 15 = .ok (.astore_n 2, 1) := by decide +kernel
theorem dL_law_16 : decode cL_law 16 = .ok (.iconst 0, 1) := by decide +kernel
theorem dL_law_17 : decode cL_law 17 = .ok (.istore_n 3, 1) := by decide +kernel
theorem dL_law_18 : decode cL_law 18 = .ok (.iload_n 3, 1) := by decide +kernel
theorem dL_law_19 : decode cL_law 19 = .ok (.aload_n 0, 1) := by decide +kernel
theorem dL_law_20 : decode cL_law 20 = .ok (.arraylength, 1) := by decide +kernel
theorem dL_law_21 : decode cL_law 21 = .ok (.bipush 7, 2) := by decide +kernel
theorem dL_law_23 : decode cL_law 23 = .ok (.isub, 1) := by decide +kernel
theorem dL_law_24 : decode cL_law 24 = .ok (.if_icmp .gt 1116, 3) := by decide +kernel
theorem dL_law_27 : decode cL_law 27 = .ok (.aload_n 0, 1) := by decide +kernel
theorem dL_law_28 : decode cL_law 28 = .ok (.iload_n 3, 1) := by decide +kernel
theorem dL_law_29 : decode cL_law 29 = .ok (.iaload, 1) := by decide +kernel
theorem dL_law_30 : decode cL_law 30 = .ok (.bipush 31, 2) := by decide +kernel
theorem dL_law_32 : decode cL_law 32 = .ok (.iand, 1) := by decide +kernel
theorem dL_law_33 : decode cL_law 33 = .ok (.tableswitch 1101 0 31 #[143, 176, 251, 284, 317, 350, 393, 406, 429, 462, 505, 538, 561, 604, 637, 680, 713, 746, 769, 792, 825, 858, 891, 924, 957, 970, 993, 1016, 1029, 1052, 1065, 1088], 143) := by decide +kernel
theorem dL_law_176 : decode cL_law 176 = .ok (.aload_n 1, 1) := by decide +kernel
theorem dL_law_177 : decode cL_law 177 = .ok (.aload_n 0, 1) := by decide +kernel
theorem dL_law_178 : decode cL_law 178 = .ok (.iload_n 3, 1) := by decide +kernel
theorem dL_law_179 : decode cL_law 179 = .ok (.iconst 1, 1) := by decide +kernel
theorem dL_law_180 : decode cL_law 180 = .ok (.iadd, 1) := by decide +kernel
theorem dL_law_181 : decode cL_law 181 = .ok (.iaload, 1) := by decide +kernel
theorem dL_law_182 : decode cL_law 182 = .ok (.aload_n 0, 1) := by decide +kernel
theorem dL_law_183 : decode cL_law 183 = .ok (.iload_n 3, 1) := by decide +kernel
theorem dL_law_184 : decode cL_law 184 = .ok (.iconst 2, 1) := by decide +kernel
theorem dL_law_185 : decode cL_law 185 = .ok (.iadd, 1) := by decide +kernel
theorem dL_law_186 : decode cL_law 186 = .ok (.iaload, 1) := by decide +kernel
theorem dL_law_187 : decode cL_law 187 = .ok (.invokevirtual 13, 3) := by decide +kernel
theorem dL_law_190 : decode cL_law 190 = .ok (.aload_n 2, 1) := by decide +kernel
theorem dL_law_191 : decode cL_law 191 = .ok (.aload_n 0, 1) := by decide +kernel
theorem dL_law_192 : decode cL_law 192 = .ok (.iload_n 3, 1) := by decide +kernel
theorem dL_law_193 : decode cL_law 193 = .ok (.iconst 1, 1) := by decide +kernel
theorem dL_law_194 : decode cL_law 194 = .ok (.iadd, 1) := by decide +kernel
theorem dL_law_195 : decode cL_law 195 = .ok (.iaload, 1) := by decide +kernel
theorem dL_law_196 : decode cL_law 196 = .ok (.aload_n 0, 1) := by decide +kernel
theorem dL_law_197 : decode cL_law 197 = .ok (.iload_n 3, 1) := by decide +kernel
theorem dL_law_198 : decode cL_law 198 = .ok (.iconst 2, 1) := by decide +kernel
theorem dL_law_199 : decode cL_law 199 = .ok (.iadd, 1) := by decide +kernel
theorem dL_law_200 : decode cL_law 200 = .ok (.iaload, 1) := by decide +kernel
theorem dL_law_201 : decode cL_law 201 = .ok (.invokevirtual 17, 3) := by decide +kernel
theorem dL_law_204 : decode cL_law 204 = .ok (.if_icmp .eq 930, 3) := by decide +kernel
theorem dL_law_207 : decode cL_law 207 = .ok (.iconst 0, 1) := by decide +kernel
theorem dL_law_208 : decode cL_law 208 = .ok (.ireturn, 1) := by decide +kernel
theorem dL_law_209 : decode cL_law 209 = .ok (.aload_n 1, 1) := by decide +kernel
theorem dL_law_210 : decode cL_law 210 = .ok (.aload_n 0, 1) := by decide +kernel
theorem dL_law_211 : decode cL_law 211 = .ok (.iload_n 3, 1) := by decide +kernel
theorem dL_law_212 : decode cL_law 212 = .ok (.iconst 1, 1) := by decide +kernel
theorem dL_law_213 : decode cL_law 213 = .ok (.iadd, 1) := by decide +kernel
theorem dL_law_214 : decode cL_law 214 = .ok (.iaload, 1) := by decide +kernel
theorem dL_law_215 : decode cL_law 215 = .ok (.aload_n 0, 1) := by decide +kernel
theorem dL_law_216 : decode cL_law 216 = .ok (.iload_n 3, 1) := by decide +kernel
theorem dL_law_217 : decode cL_law 217 = .ok (.iconst 2, 1) := by decide +kernel
theorem dL_law_218 : decode cL_law 218 = .ok (.iadd, 1) := by decide +kernel
theorem dL_law_219 : decode cL_law 219 = .ok (.iaload, 1) := by decide +kernel
theorem dL_law_220 : decode cL_law 220 = .ok (.aload_n 0, 1) := by decide +kernel
theorem dL_law_221 : decode cL_law 221 = .ok (.iload_n 3, 1) := by decide +kernel
theorem dL_law_222 : decode cL_law 222 = .ok (.iconst 3, 1) := by decide +kernel
theorem dL_law_223 : decode cL_law 223 = .ok (.iadd, 1) := by decide +kernel
theorem dL_law_224 : decode cL_law 224 = .ok (.iaload, 1) := by decide +kernel
theorem dL_law_225 : decode cL_law 225 = .ok (.aload_n 0, 1) := by decide +kernel
theorem dL_law_226 : decode cL_law 226 = .ok (.iload_n 3, 1) := by decide +kernel
theorem dL_law_227 : decode cL_law 227 = .ok (.iconst 4, 1) := by decide +kernel
theorem dL_law_228 : decode cL_law 228 = .ok (.iadd, 1) := by decide +kernel
theorem dL_law_229 : decode cL_law 229 = .ok (.iaload, 1) := by decide +kernel
theorem dL_law_230 : decode cL_law 230 = .ok (.aload_n 0, 1) := by decide +kernel
theorem dL_law_231 : decode cL_law 231 = .ok (.iload_n 3, 1) := by decide +kernel
theorem dL_law_232 : decode cL_law 232 = .ok (.iconst 5, 1) := by decide +kernel
theorem dL_law_233 : decode cL_law 233 = .ok (.iadd, 1) := by decide +kernel
theorem dL_law_234 : decode cL_law 234 = .ok (.iaload, 1) := by decide +kernel
theorem dL_law_235 : decode cL_law 235 = .ok (.aload_n 0, 1) := by decide +kernel
theorem dL_law_236 : decode cL_law 236 = .ok (.iload_n 3, 1) := by decide +kernel
theorem dL_law_237 : decode cL_law 237 = .ok (.bipush 6, 2) := by decide +kernel
theorem dL_law_239 : decode cL_law 239 = .ok (.iadd, 1) := by decide +kernel
theorem dL_law_240 : decode cL_law 240 = .ok (.iaload, 1) := by decide +kernel
theorem dL_law_241 : decode cL_law 241 = .ok (.invokevirtual 18, 3) := by decide +kernel
theorem dL_law_244 : decode cL_law 244 = .ok (.aload_n 2, 1) := by decide +kernel
theorem dL_law_245 : decode cL_law 245 = .ok (.aload_n 0, 1) := by decide +kernel
theorem dL_law_246 : decode cL_law 246 = .ok (.iload_n 3, 1) := by decide +kernel
theorem dL_law_247 : decode cL_law 247 = .ok (.iconst 1, 1) := by decide +kernel
theorem dL_law_248 : decode cL_law 248 = .ok (.iadd, 1) := by decide +kernel
theorem dL_law_249 : decode cL_law 249 = .ok (.iaload, 1) := by decide +kernel
theorem dL_law_250 : decode cL_law 250 = .ok (.aload_n 0, 1) := by decide +kernel
theorem dL_law_251 : decode cL_law 251 = .ok (.iload_n 3, 1) := by decide +kernel
theorem dL_law_252 : decode cL_law 252 = .ok (.iconst 2, 1) := by decide +kernel
theorem dL_law_253 : decode cL_law 253 = .ok (.iadd, 1) := by decide +kernel
theorem dL_law_254 : decode cL_law 254 = .ok (.iaload, 1) := by decide +kernel
theorem dL_law_255 : decode cL_law 255 = .ok (.aload_n 0, 1) := by decide +kernel
theorem dL_law_256 : decode cL_law 256 = .ok (.iload_n 3, 1) := by decide +kernel
theorem dL_law_257 : decode cL_law 257 = .ok (.iconst 3, 1) := by decide +kernel
theorem dL_law_258 : decode cL_law 258 = .ok (.iadd, 1) := by decide +kernel
theorem dL_law_259 : decode cL_law 259 = .ok (.iaload, 1) := by decide +kernel
theorem dL_law_260 : decode cL_law 260 = .ok (.aload_n 0, 1) := by decide +kernel
theorem dL_law_261 : decode cL_law 261 = .ok (.iload_n 3, 1) := by decide +kernel
theorem dL_law_262 : decode cL_law 262 = .ok (.iconst 4, 1) := by decide +kernel
theorem dL_law_263 : decode cL_law 263 = .ok (.iadd, 1) := by decide +kernel
theorem dL_law_264 : decode cL_law 264 = .ok (.iaload, 1) := by decide +kernel
theorem dL_law_265 : decode cL_law 265 = .ok (.aload_n 0, 1) := by decide +kernel
theorem dL_law_266 : decode cL_law 266 = .ok (.iload_n 3, 1) := by decide +kernel
theorem dL_law_267 : decode cL_law 267 = .ok (.iconst 5, 1) := by decide +kernel
theorem dL_law_268 : decode cL_law 268 = .ok (.iadd, 1) := by decide +kernel
theorem dL_law_269 : decode cL_law 269 = .ok (.iaload, 1) := by decide +kernel
theorem dL_law_270 : decode cL_law 270 = .ok (.aload_n 0, 1) := by decide +kernel
theorem dL_law_271 : decode cL_law 271 = .ok (.iload_n 3, 1) := by decide +kernel
theorem dL_law_272 : decode cL_law 272 = .ok (.bipush 6, 2) := by decide +kernel
theorem dL_law_274 : decode cL_law 274 = .ok (.iadd, 1) := by decide +kernel
theorem dL_law_275 : decode cL_law 275 = .ok (.iaload, 1) := by decide +kernel
theorem dL_law_276 : decode cL_law 276 = .ok (.invokevirtual 22, 3) := by decide +kernel
theorem dL_law_279 : decode cL_law 279 = .ok (.if_icmp .eq 855, 3) := by decide +kernel
theorem dL_law_282 : decode cL_law 282 = .ok (.iconst 0, 1) := by decide +kernel
theorem dL_law_283 : decode cL_law 283 = .ok (.ireturn, 1) := by decide +kernel
theorem dL_law_284 : decode cL_law 284 = .ok (.aload_n 1, 1) := by decide +kernel
theorem dL_law_285 : decode cL_law 285 = .ok (.aload_n 0, 1) := by decide +kernel
theorem dL_law_286 : decode cL_law 286 = .ok (.iload_n 3, 1) := by decide +kernel
theorem dL_law_287 : decode cL_law 287 = .ok (.iconst 1, 1) := by decide +kernel
theorem dL_law_288 : decode cL_law 288 = .ok (.iadd, 1) := by decide +kernel
theorem dL_law_289 : decode cL_law 289 = .ok (.iaload, 1) := by decide +kernel
theorem dL_law_290 : decode cL_law 290 = .ok (.aload_n 0, 1) := by decide +kernel
theorem dL_law_291 : decode cL_law 291 = .ok (.iload_n 3, 1) := by decide +kernel
theorem dL_law_292 : decode cL_law 292 = .ok (.iconst 2, 1) := by decide +kernel
theorem dL_law_293 : decode cL_law 293 = .ok (.iadd, 1) := by decide +kernel
theorem dL_law_294 : decode cL_law 294 = .ok (.iaload, 1) := by decide +kernel
theorem dL_law_295 : decode cL_law 295 = .ok (.invokevirtual 23, 3) := by decide +kernel
theorem dL_law_298 : decode cL_law 298 = .ok (.aload_n 2, 1) := by decide +kernel
theorem dL_law_299 : decode cL_law 299 = .ok (.aload_n 0, 1) := by decide +kernel
theorem dL_law_300 : decode cL_law 300 = .ok (.iload_n 3, 1) := by decide +kernel
theorem dL_law_301 : decode cL_law 301 = .ok (.iconst 1, 1) := by decide +kernel
theorem dL_law_302 : decode cL_law 302 = .ok (.iadd, 1) := by decide +kernel
theorem dL_law_303 : decode cL_law 303 = .ok (.iaload, 1) := by decide +kernel
theorem dL_law_304 : decode cL_law 304 = .ok (.aload_n 0, 1) := by decide +kernel
theorem dL_law_305 : decode cL_law 305 = .ok (.iload_n 3, 1) := by decide +kernel
theorem dL_law_306 : decode cL_law 306 = .ok (.iconst 2, 1) := by decide +kernel
theorem dL_law_307 : decode cL_law 307 = .ok (.iadd, 1) := by decide +kernel
theorem dL_law_308 : decode cL_law 308 = .ok (.iaload, 1) := by decide +kernel
theorem dL_law_309 : decode cL_law 309 = .ok (.invokevirtual 26, 3) := by decide +kernel
theorem dL_law_312 : decode cL_law 312 = .ok (.if_icmp .eq 822, 3) := by decide +kernel
theorem dL_law_315 : decode cL_law 315 = .ok (.iconst 0, 1) := by decide +kernel
theorem dL_law_316 : decode cL_law 316 = .ok (.ireturn, 1) := by decide +kernel
theorem dL_law_317 : decode cL_law 317 = .ok (.aload_n 1, 1) := by decide +kernel
theorem dL_law_318 : decode cL_law 318 = .ok (.aload_n 0, 1) := by decide +kernel
theorem dL_law_319 : decode cL_law 319 = .ok (.iload_n 3, 1) := by decide +kernel
theorem dL_law_320 : decode cL_law 320 = .ok (.iconst 1, 1) := by decide +kernel
theorem dL_law_321 : decode cL_law 321 = .ok (.iadd, 1) := by decide +kernel
theorem dL_law_322 : decode cL_law 322 = .ok (.iaload, 1) := by decide +kernel
theorem dL_law_323 : decode cL_law 323 = .ok (.aload_n 0, 1) := by decide +kernel
theorem dL_law_324 : decode cL_law 324 = .ok (.iload_n 3, 1) := by decide +kernel
theorem dL_law_325 : decode cL_law 325 = .ok (.iconst 2, 1) := by decide +kernel
theorem dL_law_326 : decode cL_law 326 = .ok (.iadd, 1) := by decide +kernel
theorem dL_law_327 : decode cL_law 327 = .ok (.iaload, 1) := by decide +kernel
theorem dL_law_328 : decode cL_law 328 = .ok (.invokevirtual 27, 3) := by decide +kernel
theorem dL_law_331 : decode cL_law 331 = .ok (.aload_n 2, 1) := by decide +kernel
theorem dL_law_332 : decode cL_law 332 = .ok (.aload_n 0, 1) := by decide +kernel
theorem dL_law_333 : decode cL_law 333 = .ok (.iload_n 3, 1) := by decide +kernel
theorem dL_law_334 : decode cL_law 334 = .ok (.iconst 1, 1) := by decide +kernel
theorem dL_law_335 : decode cL_law 335 = .ok (.iadd, 1) := by decide +kernel
theorem dL_law_336 : decode cL_law 336 = .ok (.iaload, 1) := by decide +kernel
theorem dL_law_337 : decode cL_law 337 = .ok (.aload_n 0, 1) := by decide +kernel
theorem dL_law_338 : decode cL_law 338 = .ok (.iload_n 3, 1) := by decide +kernel
theorem dL_law_339 : decode cL_law 339 = .ok (.iconst 2, 1) := by decide +kernel
theorem dL_law_340 : decode cL_law 340 = .ok (.iadd, 1) := by decide +kernel
theorem dL_law_341 : decode cL_law 341 = .ok (.iaload, 1) := by decide +kernel
theorem dL_law_342 : decode cL_law 342 = .ok (.invokevirtual 30, 3) := by decide +kernel
theorem dL_law_345 : decode cL_law 345 = .ok (.if_icmp .eq 789, 3) := by decide +kernel
theorem dL_law_348 : decode cL_law 348 = .ok (.iconst 0, 1) := by decide +kernel
theorem dL_law_349 : decode cL_law 349 = .ok (.ireturn, 1) := by decide +kernel
theorem dL_law_350 : decode cL_law 350 = .ok (.aload_n 1, 1) := by decide +kernel
theorem dL_law_351 : decode cL_law 351 = .ok (.aload_n 0, 1) := by decide +kernel
theorem dL_law_352 : decode cL_law 352 = .ok (.iload_n 3, 1) := by decide +kernel
theorem dL_law_353 : decode cL_law 353 = .ok (.iconst 1, 1) := by decide +kernel
theorem dL_law_354 : decode cL_law 354 = .ok (.iadd, 1) := by decide +kernel
theorem dL_law_355 : decode cL_law 355 = .ok (.iaload, 1) := by decide +kernel
theorem dL_law_356 : decode cL_law 356 = .ok (.aload_n 0, 1) := by decide +kernel
theorem dL_law_357 : decode cL_law 357 = .ok (.iload_n 3, 1) := by decide +kernel
theorem dL_law_358 : decode cL_law 358 = .ok (.iconst 2, 1) := by decide +kernel
theorem dL_law_359 : decode cL_law 359 = .ok (.iadd, 1) := by decide +kernel
theorem dL_law_360 : decode cL_law 360 = .ok (.iaload, 1) := by decide +kernel
theorem dL_law_361 : decode cL_law 361 = .ok (.invokevirtual 31, 3) := by decide +kernel
theorem dL_law_364 : decode cL_law 364 = .ok (.aload_n 2, 1) := by decide +kernel
theorem dL_law_365 : decode cL_law 365 = .ok (.aload_n 0, 1) := by decide +kernel
theorem dL_law_366 : decode cL_law 366 = .ok (.iload_n 3, 1) := by decide +kernel
theorem dL_law_367 : decode cL_law 367 = .ok (.iconst 1, 1) := by decide +kernel
theorem dL_law_368 : decode cL_law 368 = .ok (.iadd, 1) := by decide +kernel
theorem dL_law_369 : decode cL_law 369 = .ok (.iaload, 1) := by decide +kernel
theorem dL_law_370 : decode cL_law 370 = .ok (.aload_n 0, 1) := by decide +kernel
theorem dL_law_371 : decode cL_law 371 = .ok (.iload_n 3, 1) := by decide +kernel
theorem dL_law_372 : decode cL_law 372 = .ok (.iconst 2, 1) := by decide +kernel
theorem dL_law_373 : decode cL_law 373 = .ok (.iadd, 1) := by decide +kernel
theorem dL_law_374 : decode cL_law 374 = .ok (.iaload, 1) := by decide +kernel
theorem dL_law_375 : decode cL_law 375 = .ok (.invokevirtual 34, 3) := by decide +kernel
theorem dL_law_378 : decode cL_law 378 = .ok (.if_icmp .eq 756, 3) := by decide +kernel
theorem dL_law_381 : decode cL_law 381 = .ok (.iconst 0, 1) := by decide +kernel
theorem dL_law_382 : decode cL_law 382 = .ok (.ireturn, 1) := by decide +kernel
theorem dL_law_383 : decode cL_law 383 = .ok (.aload_n 1, 1) := by decide +kernel
theorem dL_law_384 : decode cL_law 384 = .ok (.aload_n 0, 1) := by decide +kernel
theorem dL_law_385 : decode cL_law 385 = .ok (.iload_n 3, 1) := by decide +kernel
theorem dL_law_386 : decode cL_law 386 = .ok (.iconst 1, 1) := by decide +kernel
theorem dL_law_387 : decode cL_law 387 = .ok (.iadd, 1) := by decide +kernel
theorem dL_law_388 : decode cL_law 388 = .ok (.iaload, 1) := by decide +kernel
theorem dL_law_389 : decode cL_law 389 = .ok (.aload_n 0, 1) := by decide +kernel
theorem dL_law_390 : decode cL_law 390 = .ok (.iload_n 3, 1) := by decide +kernel
theorem dL_law_391 : decode cL_law 391 = .ok (.iconst 2, 1) := by decide +kernel
theorem dL_law_392 : decode cL_law 392 = .ok (.iadd, 1) := by decide +kernel
theorem dL_law_393 : decode cL_law 393 = .ok (.iaload, 1) := by decide +kernel
theorem dL_law_394 : decode cL_law 394 = .ok (.aload_n 0, 1) := by decide +kernel
theorem dL_law_395 : decode cL_law 395 = .ok (.iload_n 3, 1) := by decide +kernel
theorem dL_law_396 : decode cL_law 396 = .ok (.iconst 3, 1) := by decide +kernel
theorem dL_law_397 : decode cL_law 397 = .ok (.iadd, 1) := by decide +kernel
theorem dL_law_398 : decode cL_law 398 = .ok (.iaload, 1) := by decide +kernel
theorem dL_law_399 : decode cL_law 399 = .ok (.invokevirtual 35, 3) := by decide +kernel
theorem dL_law_402 : decode cL_law 402 = .ok (.aload_n 2, 1) := by decide +kernel
theorem dL_law_403 : decode cL_law 403 = .ok (.aload_n 0, 1) := by decide +kernel
theorem dL_law_404 : decode cL_law 404 = .ok (.iload_n 3, 1) := by decide +kernel
theorem dL_law_405 : decode cL_law 405 = .ok (.iconst 1, 1) := by decide +kernel
theorem dL_law_406 : decode cL_law 406 = .ok (.iadd, 1) := by decide +kernel
theorem dL_law_407 : decode cL_law 407 = .ok (.iaload, 1) := by decide +kernel
theorem dL_law_408 : decode cL_law 408 = .ok (.aload_n 0, 1) := by decide +kernel
theorem dL_law_409 : decode cL_law 409 = .ok (.iload_n 3, 1) := by decide +kernel
theorem dL_law_410 : decode cL_law 410 = .ok (.iconst 2, 1) := by decide +kernel
theorem dL_law_411 : decode cL_law 411 = .ok (.iadd, 1) := by decide +kernel
theorem dL_law_412 : decode cL_law 412 = .ok (.iaload, 1) := by decide +kernel
theorem dL_law_413 : decode cL_law 413 = .ok (.aload_n 0, 1) := by decide +kernel
theorem dL_law_414 : decode cL_law 414 = .ok (.iload_n 3, 1) := by decide +kernel
theorem dL_law_415 : decode cL_law 415 = .ok (.iconst 3, 1) := by decide +kernel
theorem dL_law_416 : decode cL_law 416 = .ok (.iadd, 1) := by decide +kernel
theorem dL_law_417 : decode cL_law 417 = .ok (.iaload, 1) := by decide +kernel
theorem dL_law_418 : decode cL_law 418 = .ok (.invokevirtual 39, 3) := by decide +kernel
theorem dL_law_421 : decode cL_law 421 = .ok (.if_icmp .eq 713, 3) := by decide +kernel
theorem dL_law_424 : decode cL_law 424 = .ok (.iconst 0, 1) := by decide +kernel
theorem dL_law_425 : decode cL_law 425 = .ok (.ireturn, 1) := by decide +kernel
theorem dL_law_426 : decode cL_law 426 = .ok (.aload_n 1, 1) := by decide +kernel
theorem dL_law_427 : decode cL_law 427 = .ok (.invokevirtual 40, 3) := by decide +kernel
theorem dL_law_430 : decode cL_law 430 = .ok (.aload_n 2, 1) := by decide +kernel
theorem dL_law_431 : decode cL_law 431 = .ok (.invokevirtual 44, 3) := by decide +kernel
theorem dL_law_434 : decode cL_law 434 = .ok (.if_icmp .eq 700, 3) := by decide +kernel
theorem dL_law_437 : decode cL_law 437 = .ok (.iconst 0, 1) := by decide +kernel
theorem dL_law_438 : decode cL_law 438 = .ok (.ireturn, 1) := by decide +kernel
theorem dL_law_439 : decode cL_law 439 = .ok (.aload_n 1, 1) := by decide +kernel
theorem dL_law_440 : decode cL_law 440 = .ok (.aload_n 0, 1) := by decide +kernel
theorem dL_law_441 : decode cL_law 441 = .ok (.iload_n 3, 1) := by decide +kernel
theorem dL_law_442 : decode cL_law 442 = .ok (.iconst 1, 1) := by decide +kernel
theorem dL_law_443 : decode cL_law 443 = .ok (.iadd, 1) := by decide +kernel
theorem dL_law_444 : decode cL_law 444 = .ok (.iaload, 1) := by decide +kernel
theorem dL_law_445 : decode cL_law 445 = .ok (.invokevirtual 45, 3) := by decide +kernel
theorem dL_law_448 : decode cL_law 448 = .ok (.aload_n 2, 1) := by decide +kernel
theorem dL_law_449 : decode cL_law 449 = .ok (.aload_n 0, 1) := by decide +kernel
theorem dL_law_450 : decode cL_law 450 = .ok (.iload_n 3, 1) := by decide +kernel
theorem dL_law_451 : decode cL_law 451 = .ok (.iconst 1, 1) := by decide +kernel
theorem dL_law_452 : decode cL_law 452 = .ok (.iadd, 1) := by decide +kernel
theorem dL_law_453 : decode cL_law 453 = .ok (.iaload, 1) := by decide +kernel
theorem dL_law_454 : decode cL_law 454 = .ok (.invokevirtual 49, 3) := by decide +kernel
theorem dL_law_457 : decode cL_law 457 = .ok (.if_icmp .eq 677, 3) := by decide +kernel
theorem dL_law_460 : decode cL_law 460 = .ok (.iconst 0, 1) := by decide +kernel
theorem dL_law_461 : decode cL_law 461 = .ok (.ireturn, 1) := by decide +kernel
theorem dL_law_462 : decode cL_law 462 = .ok (.aload_n 1, 1) := by decide +kernel
theorem dL_law_463 : decode cL_law 463 = .ok (.aload_n 0, 1) := by decide +kernel
theorem dL_law_464 : decode cL_law 464 = .ok (.iload_n 3, 1) := by decide +kernel
theorem dL_law_465 : decode cL_law 465 = .ok (.iconst 1, 1) := by decide +kernel
theorem dL_law_466 : decode cL_law 466 = .ok (.iadd, 1) := by decide +kernel
theorem dL_law_467 : decode cL_law 467 = .ok (.iaload, 1) := by decide +kernel
theorem dL_law_468 : decode cL_law 468 = .ok (.aload_n 0, 1) := by decide +kernel
theorem dL_law_469 : decode cL_law 469 = .ok (.iload_n 3, 1) := by decide +kernel
theorem dL_law_470 : decode cL_law 470 = .ok (.iconst 2, 1) := by decide +kernel
theorem dL_law_471 : decode cL_law 471 = .ok (.iadd, 1) := by decide +kernel
theorem dL_law_472 : decode cL_law 472 = .ok (.iaload, 1) := by decide +kernel
theorem dL_law_473 : decode cL_law 473 = .ok (.invokevirtual 50, 3) := by decide +kernel
theorem dL_law_476 : decode cL_law 476 = .ok (.aload_n 2, 1) := by decide +kernel
theorem dL_law_477 : decode cL_law 477 = .ok (.aload_n 0, 1) := by decide +kernel
theorem dL_law_478 : decode cL_law 478 = .ok (.iload_n 3, 1) := by decide +kernel
theorem dL_law_479 : decode cL_law 479 = .ok (.iconst 1, 1) := by decide +kernel
theorem dL_law_480 : decode cL_law 480 = .ok (.iadd, 1) := by decide +kernel
theorem dL_law_481 : decode cL_law 481 = .ok (.iaload, 1) := by decide +kernel
theorem dL_law_482 : decode cL_law 482 = .ok (.aload_n 0, 1) := by decide +kernel
theorem dL_law_483 : decode cL_law 483 = .ok (.iload_n 3, 1) := by decide +kernel
theorem dL_law_484 : decode cL_law 484 = .ok (.iconst 2, 1) := by decide +kernel
theorem dL_law_485 : decode cL_law 485 = .ok (.iadd, 1) := by decide +kernel
theorem dL_law_486 : decode cL_law 486 = .ok (.iaload, 1) := by decide +kernel
theorem dL_law_487 : decode cL_law 487 = .ok (.invokevirtual 53, 3) := by decide +kernel
theorem dL_law_490 : decode cL_law 490 = .ok (.if_icmp .eq 644, 3) := by decide +kernel
theorem dL_law_493 : decode cL_law 493 = .ok (.iconst 0, 1) := by decide +kernel
theorem dL_law_494 : decode cL_law 494 = .ok (.ireturn, 1) := by decide +kernel
theorem dL_law_495 : decode cL_law 495 = .ok (.aload_n 1, 1) := by decide +kernel
theorem dL_law_496 : decode cL_law 496 = .ok (.aload_n 0, 1) := by decide +kernel
theorem dL_law_497 : decode cL_law 497 = .ok (.iload_n 3, 1) := by decide +kernel
theorem dL_law_498 : decode cL_law 498 = .ok (.iconst 1, 1) := by decide +kernel
theorem dL_law_499 : decode cL_law 499 = .ok (.iadd, 1) := by decide +kernel
theorem dL_law_500 : decode cL_law 500 = .ok (.iaload, 1) := by decide +kernel
theorem dL_law_501 : decode cL_law 501 = .ok (.aload_n 0, 1) := by decide +kernel
theorem dL_law_502 : decode cL_law 502 = .ok (.iload_n 3, 1) := by decide +kernel
theorem dL_law_503 : decode cL_law 503 = .ok (.iconst 2, 1) := by decide +kernel
theorem dL_law_504 : decode cL_law 504 = .ok (.iadd, 1) := by decide +kernel
theorem dL_law_505 : decode cL_law 505 = .ok (.iaload, 1) := by decide +kernel
theorem dL_law_506 : decode cL_law 506 = .ok (.aload_n 0, 1) := by decide +kernel
theorem dL_law_507 : decode cL_law 507 = .ok (.iload_n 3, 1) := by decide +kernel
theorem dL_law_508 : decode cL_law 508 = .ok (.iconst 3, 1) := by decide +kernel
theorem dL_law_509 : decode cL_law 509 = .ok (.iadd, 1) := by decide +kernel
theorem dL_law_510 : decode cL_law 510 = .ok (.iaload, 1) := by decide +kernel
theorem dL_law_511 : decode cL_law 511 = .ok (.invokevirtual 54, 3) := by decide +kernel
theorem dL_law_514 : decode cL_law 514 = .ok (.aload_n 2, 1) := by decide +kernel
theorem dL_law_515 : decode cL_law 515 = .ok (.aload_n 0, 1) := by decide +kernel
theorem dL_law_516 : decode cL_law 516 = .ok (.iload_n 3, 1) := by decide +kernel
theorem dL_law_517 : decode cL_law 517 = .ok (.iconst 1, 1) := by decide +kernel
theorem dL_law_518 : decode cL_law 518 = .ok (.iadd, 1) := by decide +kernel
theorem dL_law_519 : decode cL_law 519 = .ok (.iaload, 1) := by decide +kernel
theorem dL_law_520 : decode cL_law 520 = .ok (.aload_n 0, 1) := by decide +kernel
theorem dL_law_521 : decode cL_law 521 = .ok (.iload_n 3, 1) := by decide +kernel
theorem dL_law_522 : decode cL_law 522 = .ok (.iconst 2, 1) := by decide +kernel
theorem dL_law_523 : decode cL_law 523 = .ok (.iadd, 1) := by decide +kernel
theorem dL_law_524 : decode cL_law 524 = .ok (.iaload, 1) := by decide +kernel
theorem dL_law_525 : decode cL_law 525 = .ok (.aload_n 0, 1) := by decide +kernel
theorem dL_law_526 : decode cL_law 526 = .ok (.iload_n 3, 1) := by decide +kernel
theorem dL_law_527 : decode cL_law 527 = .ok (.iconst 3, 1) := by decide +kernel
theorem dL_law_528 : decode cL_law 528 = .ok (.iadd, 1) := by decide +kernel
theorem dL_law_529 : decode cL_law 529 = .ok (.iaload, 1) := by decide +kernel
theorem dL_law_530 : decode cL_law 530 = .ok (.invokevirtual 57, 3) := by decide +kernel
theorem dL_law_533 : decode cL_law 533 = .ok (.if_icmp .eq 601, 3) := by decide +kernel
theorem dL_law_536 : decode cL_law 536 = .ok (.iconst 0, 1) := by decide +kernel
theorem dL_law_537 : decode cL_law 537 = .ok (.ireturn, 1) := by decide +kernel
theorem dL_law_538 : decode cL_law 538 = .ok (.aload_n 1, 1) := by decide +kernel
theorem dL_law_539 : decode cL_law 539 = .ok (.aload_n 0, 1) := by decide +kernel
theorem dL_law_540 : decode cL_law 540 = .ok (.iload_n 3, 1) := by decide +kernel
theorem dL_law_541 : decode cL_law 541 = .ok (.iconst 1, 1) := by decide +kernel
theorem dL_law_542 : decode cL_law 542 = .ok (.iadd, 1) := by decide +kernel
theorem dL_law_543 : decode cL_law 543 = .ok (.iaload, 1) := by decide +kernel
theorem dL_law_544 : decode cL_law 544 = .ok (.aload_n 0, 1) := by decide +kernel
theorem dL_law_545 : decode cL_law 545 = .ok (.iload_n 3, 1) := by decide +kernel
theorem dL_law_546 : decode cL_law 546 = .ok (.iconst 2, 1) := by decide +kernel
theorem dL_law_547 : decode cL_law 547 = .ok (.iadd, 1) := by decide +kernel
theorem dL_law_548 : decode cL_law 548 = .ok (.iaload, 1) := by decide +kernel
theorem dL_law_549 : decode cL_law 549 = .ok (.invokevirtual 58, 3) := by decide +kernel
theorem dL_law_552 : decode cL_law 552 = .ok (.aload_n 2, 1) := by decide +kernel
theorem dL_law_553 : decode cL_law 553 = .ok (.aload_n 0, 1) := by decide +kernel
theorem dL_law_554 : decode cL_law 554 = .ok (.iload_n 3, 1) := by decide +kernel
theorem dL_law_555 : decode cL_law 555 = .ok (.iconst 1, 1) := by decide +kernel
theorem dL_law_556 : decode cL_law 556 = .ok (.iadd, 1) := by decide +kernel
theorem dL_law_557 : decode cL_law 557 = .ok (.iaload, 1) := by decide +kernel
theorem dL_law_558 : decode cL_law 558 = .ok (.aload_n 0, 1) := by decide +kernel
theorem dL_law_559 : decode cL_law 559 = .ok (.iload_n 3, 1) := by decide +kernel
theorem dL_law_560 : decode cL_law 560 = .ok (.iconst 2, 1) := by decide +kernel
theorem dL_law_561 : decode cL_law 561 = .ok (.iadd, 1) := by decide +kernel
theorem dL_law_562 : decode cL_law 562 = .ok (.iaload, 1) := by decide +kernel
theorem dL_law_563 : decode cL_law 563 = .ok (.invokevirtual 61, 3) := by decide +kernel
theorem dL_law_566 : decode cL_law 566 = .ok (.if_icmp .eq 568, 3) := by decide +kernel
theorem dL_law_569 : decode cL_law 569 = .ok (.iconst 0, 1) := by decide +kernel
theorem dL_law_570 : decode cL_law 570 = .ok (.ireturn, 1) := by decide +kernel
theorem dL_law_571 : decode cL_law 571 = .ok (.aload_n 1, 1) := by decide +kernel
theorem dL_law_572 : decode cL_law 572 = .ok (.aload_n 0, 1) := by decide +kernel
theorem dL_law_573 : decode cL_law 573 = .ok (.iload_n 3, 1) := by decide +kernel
theorem dL_law_574 : decode cL_law 574 = .ok (.iconst 1, 1) := by decide +kernel
theorem dL_law_575 : decode cL_law 575 = .ok (.iadd, 1) := by decide +kernel
theorem dL_law_576 : decode cL_law 576 = .ok (.iaload, 1) := by decide +kernel
theorem dL_law_577 : decode cL_law 577 = .ok (.invokevirtual 62, 3) := by decide +kernel
theorem dL_law_580 : decode cL_law 580 = .ok (.aload_n 2, 1) := by decide +kernel
theorem dL_law_581 : decode cL_law 581 = .ok (.aload_n 0, 1) := by decide +kernel
theorem dL_law_582 : decode cL_law 582 = .ok (.iload_n 3, 1) := by decide +kernel
theorem dL_law_583 : decode cL_law 583 = .ok (.iconst 1, 1) := by decide +kernel
theorem dL_law_584 : decode cL_law 584 = .ok (.iadd, 1) := by decide +kernel
theorem dL_law_585 : decode cL_law 585 = .ok (.iaload, 1) := by decide +kernel
theorem dL_law_586 : decode cL_law 586 = .ok (.invokevirtual 65, 3) := by decide +kernel
theorem dL_law_589 : decode cL_law 589 = .ok (.if_icmp .eq 545, 3) := by decide +kernel
theorem dL_law_592 : decode cL_law 592 = .ok (.iconst 0, 1) := by decide +kernel
theorem dL_law_593 : decode cL_law 593 = .ok (.ireturn, 1) := by decide +kernel
theorem dL_law_594 : decode cL_law 594 = .ok (.aload_n 1, 1) := by decide +kernel
theorem dL_law_595 : decode cL_law 595 = .ok (.aload_n 0, 1) := by decide +kernel
theorem dL_law_596 : decode cL_law 596 = .ok (.iload_n 3, 1) := by decide +kernel
theorem dL_law_597 : decode cL_law 597 = .ok (.iconst 1, 1) := by decide +kernel
theorem dL_law_598 : decode cL_law 598 = .ok (.iadd, 1) := by decide +kernel
theorem dL_law_599 : decode cL_law 599 = .ok (.iaload, 1) := by decide +kernel
theorem dL_law_600 : decode cL_law 600 = .ok (.aload_n 0, 1) := by decide +kernel
theorem dL_law_601 : decode cL_law 601 = .ok (.iload_n 3, 1) := by decide +kernel
theorem dL_law_602 : decode cL_law 602 = .ok (.iconst 2, 1) := by decide +kernel
theorem dL_law_603 : decode cL_law 603 = .ok (.iadd, 1) := by decide +kernel
theorem dL_law_604 : decode cL_law 604 = .ok (.iaload, 1) := by decide +kernel
theorem dL_law_605 : decode cL_law 605 = .ok (.aload_n 0, 1) := by decide +kernel
theorem dL_law_606 : decode cL_law 606 = .ok (.iload_n 3, 1) := by decide +kernel
theorem dL_law_607 : decode cL_law 607 = .ok (.iconst 3, 1) := by decide +kernel
theorem dL_law_608 : decode cL_law 608 = .ok (.iadd, 1) := by decide +kernel
theorem dL_law_609 : decode cL_law 609 = .ok (.iaload, 1) := by decide +kernel
theorem dL_law_610 : decode cL_law 610 = .ok (.invokevirtual 66, 3) := by decide +kernel
theorem dL_law_613 : decode cL_law 613 = .ok (.aload_n 2, 1) := by decide +kernel
theorem dL_law_614 : decode cL_law 614 = .ok (.aload_n 0, 1) := by decide +kernel
theorem dL_law_615 : decode cL_law 615 = .ok (.iload_n 3, 1) := by decide +kernel
theorem dL_law_616 : decode cL_law 616 = .ok (.iconst 1, 1) := by decide +kernel
theorem dL_law_617 : decode cL_law 617 = .ok (.iadd, 1) := by decide +kernel
theorem dL_law_618 : decode cL_law 618 = .ok (.iaload, 1) := by decide +kernel
theorem dL_law_619 : decode cL_law 619 = .ok (.aload_n 0, 1) := by decide +kernel
theorem dL_law_620 : decode cL_law 620 = .ok (.iload_n 3, 1) := by decide +kernel
theorem dL_law_621 : decode cL_law 621 = .ok (.iconst 2, 1) := by decide +kernel
theorem dL_law_622 : decode cL_law 622 = .ok (.iadd, 1) := by decide +kernel
theorem dL_law_623 : decode cL_law 623 = .ok (.iaload, 1) := by decide +kernel
theorem dL_law_624 : decode cL_law 624 = .ok (.aload_n 0, 1) := by decide +kernel
theorem dL_law_625 : decode cL_law 625 = .ok (.iload_n 3, 1) := by decide +kernel
theorem dL_law_626 : decode cL_law 626 = .ok (.iconst 3, 1) := by decide +kernel
theorem dL_law_627 : decode cL_law 627 = .ok (.iadd, 1) := by decide +kernel
theorem dL_law_628 : decode cL_law 628 = .ok (.iaload, 1) := by decide +kernel
theorem dL_law_629 : decode cL_law 629 = .ok (.invokevirtual 69, 3) := by decide +kernel
theorem dL_law_632 : decode cL_law 632 = .ok (.if_icmp .eq 502, 3) := by decide +kernel
theorem dL_law_635 : decode cL_law 635 = .ok (.iconst 0, 1) := by decide +kernel
theorem dL_law_636 : decode cL_law 636 = .ok (.ireturn, 1) := by decide +kernel
theorem dL_law_637 : decode cL_law 637 = .ok (.aload_n 1, 1) := by decide +kernel
theorem dL_law_638 : decode cL_law 638 = .ok (.aload_n 0, 1) := by decide +kernel
theorem dL_law_639 : decode cL_law 639 = .ok (.iload_n 3, 1) := by decide +kernel
theorem dL_law_640 : decode cL_law 640 = .ok (.iconst 1, 1) := by decide +kernel
theorem dL_law_641 : decode cL_law 641 = .ok (.iadd, 1) := by decide +kernel
theorem dL_law_642 : decode cL_law 642 = .ok (.iaload, 1) := by decide +kernel
theorem dL_law_643 : decode cL_law 643 = .ok (.aload_n 0, 1) := by decide +kernel
theorem dL_law_644 : decode cL_law 644 = .ok (.iload_n 3, 1) := by decide +kernel
theorem dL_law_645 : decode cL_law 645 = .ok (.iconst 2, 1) := by decide +kernel
theorem dL_law_646 : decode cL_law 646 = .ok (.iadd, 1) := by decide +kernel
theorem dL_law_647 : decode cL_law 647 = .ok (.iaload, 1) := by decide +kernel
theorem dL_law_648 : decode cL_law 648 = .ok (.invokevirtual 70, 3) := by decide +kernel
theorem dL_law_651 : decode cL_law 651 = .ok (.aload_n 2, 1) := by decide +kernel
theorem dL_law_652 : decode cL_law 652 = .ok (.aload_n 0, 1) := by decide +kernel
theorem dL_law_653 : decode cL_law 653 = .ok (.iload_n 3, 1) := by decide +kernel
theorem dL_law_654 : decode cL_law 654 = .ok (.iconst 1, 1) := by decide +kernel
theorem dL_law_655 : decode cL_law 655 = .ok (.iadd, 1) := by decide +kernel
theorem dL_law_656 : decode cL_law 656 = .ok (.iaload, 1) := by decide +kernel
theorem dL_law_657 : decode cL_law 657 = .ok (.aload_n 0, 1) := by decide +kernel
theorem dL_law_658 : decode cL_law 658 = .ok (.iload_n 3, 1) := by decide +kernel
theorem dL_law_659 : decode cL_law 659 = .ok (.iconst 2, 1) := by decide +kernel
theorem dL_law_660 : decode cL_law 660 = .ok (.iadd, 1) := by decide +kernel
theorem dL_law_661 : decode cL_law 661 = .ok (.iaload, 1) := by decide +kernel
theorem dL_law_662 : decode cL_law 662 = .ok (.invokevirtual 73, 3) := by decide +kernel
theorem dL_law_665 : decode cL_law 665 = .ok (.if_icmp .eq 469, 3) := by decide +kernel
theorem dL_law_668 : decode cL_law 668 = .ok (.iconst 0, 1) := by decide +kernel
theorem dL_law_669 : decode cL_law 669 = .ok (.ireturn, 1) := by decide +kernel
theorem dL_law_670 : decode cL_law 670 = .ok (.aload_n 1, 1) := by decide +kernel
theorem dL_law_671 : decode cL_law 671 = .ok (.aload_n 0, 1) := by decide +kernel
theorem dL_law_672 : decode cL_law 672 = .ok (.iload_n 3, 1) := by decide +kernel
theorem dL_law_673 : decode cL_law 673 = .ok (.iconst 1, 1) := by decide +kernel
theorem dL_law_674 : decode cL_law 674 = .ok (.iadd, 1) := by decide +kernel
theorem dL_law_675 : decode cL_law 675 = .ok (.iaload, 1) := by decide +kernel
theorem dL_law_676 : decode cL_law 676 = .ok (.aload_n 0, 1) := by decide +kernel
theorem dL_law_677 : decode cL_law 677 = .ok (.iload_n 3, 1) := by decide +kernel
theorem dL_law_678 : decode cL_law 678 = .ok (.iconst 2, 1) := by decide +kernel
theorem dL_law_679 : decode cL_law 679 = .ok (.iadd, 1) := by decide +kernel
theorem dL_law_680 : decode cL_law 680 = .ok (.iaload, 1) := by decide +kernel
theorem dL_law_681 : decode cL_law 681 = .ok (.aload_n 0, 1) := by decide +kernel
theorem dL_law_682 : decode cL_law 682 = .ok (.iload_n 3, 1) := by decide +kernel
theorem dL_law_683 : decode cL_law 683 = .ok (.iconst 3, 1) := by decide +kernel
theorem dL_law_684 : decode cL_law 684 = .ok (.iadd, 1) := by decide +kernel
theorem dL_law_685 : decode cL_law 685 = .ok (.iaload, 1) := by decide +kernel
theorem dL_law_686 : decode cL_law 686 = .ok (.invokevirtual 74, 3) := by decide +kernel
theorem dL_law_689 : decode cL_law 689 = .ok (.aload_n 2, 1) := by decide +kernel
theorem dL_law_690 : decode cL_law 690 = .ok (.aload_n 0, 1) := by decide +kernel
theorem dL_law_691 : decode cL_law 691 = .ok (.iload_n 3, 1) := by decide +kernel
theorem dL_law_692 : decode cL_law 692 = .ok (.iconst 1, 1) := by decide +kernel
theorem dL_law_693 : decode cL_law 693 = .ok (.iadd, 1) := by decide +kernel
theorem dL_law_694 : decode cL_law 694 = .ok (.iaload, 1) := by decide +kernel
theorem dL_law_695 : decode cL_law 695 = .ok (.aload_n 0, 1) := by decide +kernel
theorem dL_law_696 : decode cL_law 696 = .ok (.iload_n 3, 1) := by decide +kernel
theorem dL_law_697 : decode cL_law 697 = .ok (.iconst 2, 1) := by decide +kernel
theorem dL_law_698 : decode cL_law 698 = .ok (.iadd, 1) := by decide +kernel
theorem dL_law_699 : decode cL_law 699 = .ok (.iaload, 1) := by decide +kernel
theorem dL_law_700 : decode cL_law 700 = .ok (.aload_n 0, 1) := by decide +kernel
theorem dL_law_701 : decode cL_law 701 = .ok (.iload_n 3, 1) := by decide +kernel
theorem dL_law_702 : decode cL_law 702 = .ok (.iconst 3, 1) := by decide +kernel
theorem dL_law_703 : decode cL_law 703 = .ok (.iadd, 1) := by decide +kernel
theorem dL_law_704 : decode cL_law 704 = .ok (.iaload, 1) := by decide +kernel
theorem dL_law_705 : decode cL_law 705 = .ok (.invokevirtual 77, 3) := by decide +kernel
theorem dL_law_708 : decode cL_law 708 = .ok (.if_icmp .eq 426, 3) := by decide +kernel
theorem dL_law_711 : decode cL_law 711 = .ok (.iconst 0, 1) := by decide +kernel
theorem dL_law_712 : decode cL_law 712 = .ok (.ireturn, 1) := by decide +kernel
theorem dL_law_713 : decode cL_law 713 = .ok (.aload_n 1, 1) := by decide +kernel
theorem dL_law_714 : decode cL_law 714 = .ok (.aload_n 0, 1) := by decide +kernel
theorem dL_law_715 : decode cL_law 715 = .ok (.iload_n 3, 1) := by decide +kernel
theorem dL_law_716 : decode cL_law 716 = .ok (.iconst 1, 1) := by decide +kernel
theorem dL_law_717 : decode cL_law 717 = .ok (.iadd, 1) := by decide +kernel
theorem dL_law_718 : decode cL_law 718 = .ok (.iaload, 1) := by decide +kernel
theorem dL_law_719 : decode cL_law 719 = .ok (.aload_n 0, 1) := by decide +kernel
theorem dL_law_720 : decode cL_law 720 = .ok (.iload_n 3, 1) := by decide +kernel
theorem dL_law_721 : decode cL_law 721 = .ok (.iconst 2, 1) := by decide +kernel
theorem dL_law_722 : decode cL_law 722 = .ok (.iadd, 1) := by decide +kernel
theorem dL_law_723 : decode cL_law 723 = .ok (.iaload, 1) := by decide +kernel
theorem dL_law_724 : decode cL_law 724 = .ok (.invokevirtual 78, 3) := by decide +kernel
theorem dL_law_727 : decode cL_law 727 = .ok (.aload_n 2, 1) := by decide +kernel
theorem dL_law_728 : decode cL_law 728 = .ok (.aload_n 0, 1) := by decide +kernel
theorem dL_law_729 : decode cL_law 729 = .ok (.iload_n 3, 1) := by decide +kernel
theorem dL_law_730 : decode cL_law 730 = .ok (.iconst 1, 1) := by decide +kernel
theorem dL_law_731 : decode cL_law 731 = .ok (.iadd, 1) := by decide +kernel
theorem dL_law_732 : decode cL_law 732 = .ok (.iaload, 1) := by decide +kernel
theorem dL_law_733 : decode cL_law 733 = .ok (.aload_n 0, 1) := by decide +kernel
theorem dL_law_734 : decode cL_law 734 = .ok (.iload_n 3, 1) := by decide +kernel
theorem dL_law_735 : decode cL_law 735 = .ok (.iconst 2, 1) := by decide +kernel
theorem dL_law_736 : decode cL_law 736 = .ok (.iadd, 1) := by decide +kernel
theorem dL_law_737 : decode cL_law 737 = .ok (.iaload, 1) := by decide +kernel
theorem dL_law_738 : decode cL_law 738 = .ok (.invokevirtual 81, 3) := by decide +kernel
theorem dL_law_741 : decode cL_law 741 = .ok (.if_icmp .eq 393, 3) := by decide +kernel
theorem dL_law_744 : decode cL_law 744 = .ok (.iconst 0, 1) := by decide +kernel
theorem dL_law_745 : decode cL_law 745 = .ok (.ireturn, 1) := by decide +kernel
theorem dL_law_746 : decode cL_law 746 = .ok (.aload_n 1, 1) := by decide +kernel
theorem dL_law_747 : decode cL_law 747 = .ok (.aload_n 0, 1) := by decide +kernel
theorem dL_law_748 : decode cL_law 748 = .ok (.iload_n 3, 1) := by decide +kernel
theorem dL_law_749 : decode cL_law 749 = .ok (.iconst 1, 1) := by decide +kernel
theorem dL_law_750 : decode cL_law 750 = .ok (.iadd, 1) := by decide +kernel
theorem dL_law_751 : decode cL_law 751 = .ok (.iaload, 1) := by decide +kernel
theorem dL_law_752 : decode cL_law 752 = .ok (.aload_n 0, 1) := by decide +kernel
theorem dL_law_753 : decode cL_law 753 = .ok (.iload_n 3, 1) := by decide +kernel
theorem dL_law_754 : decode cL_law 754 = .ok (.iconst 2, 1) := by decide +kernel
theorem dL_law_755 : decode cL_law 755 = .ok (.iadd, 1) := by decide +kernel
theorem dL_law_756 : decode cL_law 756 = .ok (.iaload, 1) := by decide +kernel
theorem dL_law_757 : decode cL_law 757 = .ok (.invokevirtual 82, 3) := by decide +kernel
theorem dL_law_760 : decode cL_law 760 = .ok (.aload_n 2, 1) := by decide +kernel
theorem dL_law_761 : decode cL_law 761 = .ok (.aload_n 0, 1) := by decide +kernel
theorem dL_law_762 : decode cL_law 762 = .ok (.iload_n 3, 1) := by decide +kernel
theorem dL_law_763 : decode cL_law 763 = .ok (.iconst 1, 1) := by decide +kernel
theorem dL_law_764 : decode cL_law 764 = .ok (.iadd, 1) := by decide +kernel
theorem dL_law_765 : decode cL_law 765 = .ok (.iaload, 1) := by decide +kernel
theorem dL_law_766 : decode cL_law 766 = .ok (.aload_n 0, 1) := by decide +kernel
theorem dL_law_767 : decode cL_law 767 = .ok (.iload_n 3, 1) := by decide +kernel
theorem dL_law_768 : decode cL_law 768 = .ok (.iconst 2, 1) := by decide +kernel
theorem dL_law_769 : decode cL_law 769 = .ok (.iadd, 1) := by decide +kernel
theorem dL_law_770 : decode cL_law 770 = .ok (.iaload, 1) := by decide +kernel
theorem dL_law_771 : decode cL_law 771 = .ok (.invokevirtual 85, 3) := by decide +kernel
theorem dL_law_774 : decode cL_law 774 = .ok (.if_icmp .eq 360, 3) := by decide +kernel
theorem dL_law_777 : decode cL_law 777 = .ok (.iconst 0, 1) := by decide +kernel
theorem dL_law_778 : decode cL_law 778 = .ok (.ireturn, 1) := by decide +kernel
theorem dL_law_779 : decode cL_law 779 = .ok (.aload_n 1, 1) := by decide +kernel
theorem dL_law_780 : decode cL_law 780 = .ok (.aload_n 0, 1) := by decide +kernel
theorem dL_law_781 : decode cL_law 781 = .ok (.iload_n 3, 1) := by decide +kernel
theorem dL_law_782 : decode cL_law 782 = .ok (.iconst 1, 1) := by decide +kernel
theorem dL_law_783 : decode cL_law 783 = .ok (.iadd, 1) := by decide +kernel
theorem dL_law_784 : decode cL_law 784 = .ok (.iaload, 1) := by decide +kernel
theorem dL_law_785 : decode cL_law 785 = .ok (.invokevirtual 86, 3) := by decide +kernel
theorem dL_law_788 : decode cL_law 788 = .ok (.aload_n 2, 1) := by decide +kernel
theorem dL_law_789 : decode cL_law 789 = .ok (.aload_n 0, 1) := by decide +kernel
theorem dL_law_790 : decode cL_law 790 = .ok (.iload_n 3, 1) := by decide +kernel
theorem dL_law_791 : decode cL_law 791 = .ok (.iconst 1, 1) := by decide +kernel
theorem dL_law_792 : decode cL_law 792 = .ok (.iadd, 1) := by decide +kernel
theorem dL_law_793 : decode cL_law 793 = .ok (.iaload, 1) := by decide +kernel
theorem dL_law_794 : decode cL_law 794 = .ok (.invokevirtual 89, 3) := by decide +kernel
theorem dL_law_797 : decode cL_law 797 = .ok (.if_icmp .eq 337, 3) := by decide +kernel
theorem dL_law_800 : decode cL_law 800 = .ok (.iconst 0, 1) := by decide +kernel
theorem dL_law_801 : decode cL_law 801 = .ok (.ireturn, 1) := by decide +kernel
theorem dL_law_802 : decode cL_law 802 = .ok (.aload_n 1, 1) := by decide +kernel
theorem dL_law_803 : decode cL_law 803 = .ok (.aload_n 0, 1) := by decide +kernel
theorem dL_law_804 : decode cL_law 804 = .ok (.iload_n 3, 1) := by decide +kernel
theorem dL_law_805 : decode cL_law 805 = .ok (.iconst 1, 1) := by decide +kernel
theorem dL_law_806 : decode cL_law 806 = .ok (.iadd, 1) := by decide +kernel
theorem dL_law_807 : decode cL_law 807 = .ok (.iaload, 1) := by decide +kernel
theorem dL_law_808 : decode cL_law 808 = .ok (.invokevirtual 90, 3) := by decide +kernel
theorem dL_law_811 : decode cL_law 811 = .ok (.aload_n 2, 1) := by decide +kernel
theorem dL_law_812 : decode cL_law 812 = .ok (.aload_n 0, 1) := by decide +kernel
theorem dL_law_813 : decode cL_law 813 = .ok (.iload_n 3, 1) := by decide +kernel
theorem dL_law_814 : decode cL_law 814 = .ok (.iconst 1, 1) := by decide +kernel
theorem dL_law_815 : decode cL_law 815 = .ok (.iadd, 1) := by decide +kernel
theorem dL_law_816 : decode cL_law 816 = .ok (.iaload, 1) := by decide +kernel
theorem dL_law_817 : decode cL_law 817 = .ok (.invokevirtual 93, 3) := by decide +kernel
theorem dL_law_820 : decode cL_law 820 = .ok (.if_icmp .eq 314, 3) := by decide +kernel
theorem dL_law_823 : decode cL_law 823 = .ok (.iconst 0, 1) := by decide +kernel
theorem dL_law_824 : decode cL_law 824 = .ok (.ireturn, 1) := by decide +kernel
theorem dL_law_825 : decode cL_law 825 = .ok (.aload_n 1, 1) := by decide +kernel
theorem dL_law_826 : decode cL_law 826 = .ok (.aload_n 0, 1) := by decide +kernel
theorem dL_law_827 : decode cL_law 827 = .ok (.iload_n 3, 1) := by decide +kernel
theorem dL_law_828 : decode cL_law 828 = .ok (.iconst 1, 1) := by decide +kernel
theorem dL_law_829 : decode cL_law 829 = .ok (.iadd, 1) := by decide +kernel
theorem dL_law_830 : decode cL_law 830 = .ok (.iaload, 1) := by decide +kernel
theorem dL_law_831 : decode cL_law 831 = .ok (.aload_n 0, 1) := by decide +kernel
theorem dL_law_832 : decode cL_law 832 = .ok (.iload_n 3, 1) := by decide +kernel
theorem dL_law_833 : decode cL_law 833 = .ok (.iconst 2, 1) := by decide +kernel
theorem dL_law_834 : decode cL_law 834 = .ok (.iadd, 1) := by decide +kernel
theorem dL_law_835 : decode cL_law 835 = .ok (.iaload, 1) := by decide +kernel
theorem dL_law_836 : decode cL_law 836 = .ok (.invokevirtual 94, 3) := by decide +kernel
theorem dL_law_839 : decode cL_law 839 = .ok (.aload_n 2, 1) := by decide +kernel
theorem dL_law_840 : decode cL_law 840 = .ok (.aload_n 0, 1) := by decide +kernel
theorem dL_law_841 : decode cL_law 841 = .ok (.iload_n 3, 1) := by decide +kernel
theorem dL_law_842 : decode cL_law 842 = .ok (.iconst 1, 1) := by decide +kernel
theorem dL_law_843 : decode cL_law 843 = .ok (.iadd, 1) := by decide +kernel
theorem dL_law_844 : decode cL_law 844 = .ok (.iaload, 1) := by decide +kernel
theorem dL_law_845 : decode cL_law 845 = .ok (.aload_n 0, 1) := by decide +kernel
theorem dL_law_846 : decode cL_law 846 = .ok (.iload_n 3, 1) := by decide +kernel
theorem dL_law_847 : decode cL_law 847 = .ok (.iconst 2, 1) := by decide +kernel
theorem dL_law_848 : decode cL_law 848 = .ok (.iadd, 1) := by decide +kernel
theorem dL_law_849 : decode cL_law 849 = .ok (.iaload, 1) := by decide +kernel
theorem dL_law_850 : decode cL_law 850 = .ok (.invokevirtual 97, 3) := by decide +kernel
theorem dL_law_853 : decode cL_law 853 = .ok (.if_icmp .eq 281, 3) := by decide +kernel
theorem dL_law_856 : decode cL_law 856 = .ok (.iconst 0, 1) := by decide +kernel
theorem dL_law_857 : decode cL_law 857 = .ok (.ireturn, 1) := by decide +kernel
theorem dL_law_858 : decode cL_law 858 = .ok (.aload_n 1, 1) := by decide +kernel
theorem dL_law_859 : decode cL_law 859 = .ok (.aload_n 0, 1) := by decide +kernel
theorem dL_law_860 : decode cL_law 860 = .ok (.iload_n 3, 1) := by decide +kernel
theorem dL_law_861 : decode cL_law 861 = .ok (.iconst 1, 1) := by decide +kernel
theorem dL_law_862 : decode cL_law 862 = .ok (.iadd, 1) := by decide +kernel
theorem dL_law_863 : decode cL_law 863 = .ok (.iaload, 1) := by decide +kernel
theorem dL_law_864 : decode cL_law 864 = .ok (.aload_n 0, 1) := by decide +kernel
theorem dL_law_865 : decode cL_law 865 = .ok (.iload_n 3, 1) := by decide +kernel
theorem dL_law_866 : decode cL_law 866 = .ok (.iconst 2, 1) := by decide +kernel
theorem dL_law_867 : decode cL_law 867 = .ok (.iadd, 1) := by decide +kernel
theorem dL_law_868 : decode cL_law 868 = .ok (.iaload, 1) := by decide +kernel
theorem dL_law_869 : decode cL_law 869 = .ok (.invokevirtual 98, 3) := by decide +kernel
theorem dL_law_872 : decode cL_law 872 = .ok (.aload_n 2, 1) := by decide +kernel
theorem dL_law_873 : decode cL_law 873 = .ok (.aload_n 0, 1) := by decide +kernel
theorem dL_law_874 : decode cL_law 874 = .ok (.iload_n 3, 1) := by decide +kernel
theorem dL_law_875 : decode cL_law 875 = .ok (.iconst 1, 1) := by decide +kernel
theorem dL_law_876 : decode cL_law 876 = .ok (.iadd, 1) := by decide +kernel
theorem dL_law_877 : decode cL_law 877 = .ok (.iaload, 1) := by decide +kernel
theorem dL_law_878 : decode cL_law 878 = .ok (.aload_n 0, 1) := by decide +kernel
theorem dL_law_879 : decode cL_law 879 = .ok (.iload_n 3, 1) := by decide +kernel
theorem dL_law_880 : decode cL_law 880 = .ok (.iconst 2, 1) := by decide +kernel
theorem dL_law_881 : decode cL_law 881 = .ok (.iadd, 1) := by decide +kernel
theorem dL_law_882 : decode cL_law 882 = .ok (.iaload, 1) := by decide +kernel
theorem dL_law_883 : decode cL_law 883 = .ok (.invokevirtual 101, 3) := by decide +kernel
theorem dL_law_886 : decode cL_law 886 = .ok (.if_icmp .eq 248, 3) := by decide +kernel
theorem dL_law_889 : decode cL_law 889 = .ok (.iconst 0, 1) := by decide +kernel
theorem dL_law_890 : decode cL_law 890 = .ok (.ireturn, 1) := by decide +kernel
theorem dL_law_891 : decode cL_law 891 = .ok (.aload_n 1, 1) := by decide +kernel
theorem dL_law_892 : decode cL_law 892 = .ok (.aload_n 0, 1) := by decide +kernel
theorem dL_law_893 : decode cL_law 893 = .ok (.iload_n 3, 1) := by decide +kernel
theorem dL_law_894 : decode cL_law 894 = .ok (.iconst 1, 1) := by decide +kernel
theorem dL_law_895 : decode cL_law 895 = .ok (.iadd, 1) := by decide +kernel
theorem dL_law_896 : decode cL_law 896 = .ok (.iaload, 1) := by decide +kernel
theorem dL_law_897 : decode cL_law 897 = .ok (.aload_n 0, 1) := by decide +kernel
theorem dL_law_898 : decode cL_law 898 = .ok (.iload_n 3, 1) := by decide +kernel
theorem dL_law_899 : decode cL_law 899 = .ok (.iconst 2, 1) := by decide +kernel
theorem dL_law_900 : decode cL_law 900 = .ok (.iadd, 1) := by decide +kernel
theorem dL_law_901 : decode cL_law 901 = .ok (.iaload, 1) := by decide +kernel
theorem dL_law_902 : decode cL_law 902 = .ok (.invokevirtual 102, 3) := by decide +kernel
theorem dL_law_905 : decode cL_law 905 = .ok (.aload_n 2, 1) := by decide +kernel
theorem dL_law_906 : decode cL_law 906 = .ok (.aload_n 0, 1) := by decide +kernel
theorem dL_law_907 : decode cL_law 907 = .ok (.iload_n 3, 1) := by decide +kernel
theorem dL_law_908 : decode cL_law 908 = .ok (.iconst 1, 1) := by decide +kernel
theorem dL_law_909 : decode cL_law 909 = .ok (.iadd, 1) := by decide +kernel
theorem dL_law_910 : decode cL_law 910 = .ok (.iaload, 1) := by decide +kernel
theorem dL_law_911 : decode cL_law 911 = .ok (.aload_n 0, 1) := by decide +kernel
theorem dL_law_912 : decode cL_law 912 = .ok (.iload_n 3, 1) := by decide +kernel
theorem dL_law_913 : decode cL_law 913 = .ok (.iconst 2, 1) := by decide +kernel
theorem dL_law_914 : decode cL_law 914 = .ok (.iadd, 1) := by decide +kernel
theorem dL_law_915 : decode cL_law 915 = .ok (.iaload, 1) := by decide +kernel
theorem dL_law_916 : decode cL_law 916 = .ok (.invokevirtual 105, 3) := by decide +kernel
theorem dL_law_919 : decode cL_law 919 = .ok (.if_icmp .eq 215, 3) := by decide +kernel
theorem dL_law_922 : decode cL_law 922 = .ok (.iconst 0, 1) := by decide +kernel
theorem dL_law_923 : decode cL_law 923 = .ok (.ireturn, 1) := by decide +kernel
theorem dL_law_924 : decode cL_law 924 = .ok (.aload_n 1, 1) := by decide +kernel
theorem dL_law_925 : decode cL_law 925 = .ok (.aload_n 0, 1) := by decide +kernel
theorem dL_law_926 : decode cL_law 926 = .ok (.iload_n 3, 1) := by decide +kernel
theorem dL_law_927 : decode cL_law 927 = .ok (.iconst 1, 1) := by decide +kernel
theorem dL_law_928 : decode cL_law 928 = .ok (.iadd, 1) := by decide +kernel
theorem dL_law_929 : decode cL_law 929 = .ok (.iaload, 1) := by decide +kernel
theorem dL_law_930 : decode cL_law 930 = .ok (.aload_n 0, 1) := by decide +kernel
theorem dL_law_931 : decode cL_law 931 = .ok (.iload_n 3, 1) := by decide +kernel
theorem dL_law_932 : decode cL_law 932 = .ok (.iconst 2, 1) := by decide +kernel
theorem dL_law_933 : decode cL_law 933 = .ok (.iadd, 1) := by decide +kernel
theorem dL_law_934 : decode cL_law 934 = .ok (.iaload, 1) := by decide +kernel
theorem dL_law_935 : decode cL_law 935 = .ok (.invokevirtual 106, 3) := by decide +kernel
theorem dL_law_938 : decode cL_law 938 = .ok (.aload_n 2, 1) := by decide +kernel
theorem dL_law_939 : decode cL_law 939 = .ok (.aload_n 0, 1) := by decide +kernel
theorem dL_law_940 : decode cL_law 940 = .ok (.iload_n 3, 1) := by decide +kernel
theorem dL_law_941 : decode cL_law 941 = .ok (.iconst 1, 1) := by decide +kernel
theorem dL_law_942 : decode cL_law 942 = .ok (.iadd, 1) := by decide +kernel
theorem dL_law_943 : decode cL_law 943 = .ok (.iaload, 1) := by decide +kernel
theorem dL_law_944 : decode cL_law 944 = .ok (.aload_n 0, 1) := by decide +kernel
theorem dL_law_945 : decode cL_law 945 = .ok (.iload_n 3, 1) := by decide +kernel
theorem dL_law_946 : decode cL_law 946 = .ok (.iconst 2, 1) := by decide +kernel
theorem dL_law_947 : decode cL_law 947 = .ok (.iadd, 1) := by decide +kernel
theorem dL_law_948 : decode cL_law 948 = .ok (.iaload, 1) := by decide +kernel
theorem dL_law_949 : decode cL_law 949 = .ok (.invokevirtual 109, 3) := by decide +kernel
theorem dL_law_952 : decode cL_law 952 = .ok (.if_icmp .eq 182, 3) := by decide +kernel
theorem dL_law_955 : decode cL_law 955 = .ok (.iconst 0, 1) := by decide +kernel
theorem dL_law_956 : decode cL_law 956 = .ok (.ireturn, 1) := by decide +kernel
theorem dL_law_957 : decode cL_law 957 = .ok (.aload_n 1, 1) := by decide +kernel
theorem dL_law_958 : decode cL_law 958 = .ok (.aload_n 0, 1) := by decide +kernel
theorem dL_law_959 : decode cL_law 959 = .ok (.iload_n 3, 1) := by decide +kernel
theorem dL_law_960 : decode cL_law 960 = .ok (.iconst 1, 1) := by decide +kernel
theorem dL_law_961 : decode cL_law 961 = .ok (.iadd, 1) := by decide +kernel
theorem dL_law_962 : decode cL_law 962 = .ok (.iaload, 1) := by decide +kernel
theorem dL_law_963 : decode cL_law 963 = .ok (.aload_n 0, 1) := by decide +kernel
theorem dL_law_964 : decode cL_law 964 = .ok (.iload_n 3, 1) := by decide +kernel
theorem dL_law_965 : decode cL_law 965 = .ok (.iconst 2, 1) := by decide +kernel
theorem dL_law_966 : decode cL_law 966 = .ok (.iadd, 1) := by decide +kernel
theorem dL_law_967 : decode cL_law 967 = .ok (.iaload, 1) := by decide +kernel
theorem dL_law_968 : decode cL_law 968 = .ok (.invokevirtual 110, 3) := by decide +kernel
theorem dL_law_971 : decode cL_law 971 = .ok (.aload_n 2, 1) := by decide +kernel
theorem dL_law_972 : decode cL_law 972 = .ok (.aload_n 0, 1) := by decide +kernel
theorem dL_law_973 : decode cL_law 973 = .ok (.iload_n 3, 1) := by decide +kernel
theorem dL_law_974 : decode cL_law 974 = .ok (.iconst 1, 1) := by decide +kernel
theorem dL_law_975 : decode cL_law 975 = .ok (.iadd, 1) := by decide +kernel
theorem dL_law_976 : decode cL_law 976 = .ok (.iaload, 1) := by decide +kernel
theorem dL_law_977 : decode cL_law 977 = .ok (.aload_n 0, 1) := by decide +kernel
theorem dL_law_978 : decode cL_law 978 = .ok (.iload_n 3, 1) := by decide +kernel
theorem dL_law_979 : decode cL_law 979 = .ok (.iconst 2, 1) := by decide +kernel
theorem dL_law_980 : decode cL_law 980 = .ok (.iadd, 1) := by decide +kernel
theorem dL_law_981 : decode cL_law 981 = .ok (.iaload, 1) := by decide +kernel
theorem dL_law_982 : decode cL_law 982 = .ok (.invokevirtual 113, 3) := by decide +kernel
theorem dL_law_985 : decode cL_law 985 = .ok (.if_icmp .eq 149, 3) := by decide +kernel
theorem dL_law_988 : decode cL_law 988 = .ok (.iconst 0, 1) := by decide +kernel
theorem dL_law_989 : decode cL_law 989 = .ok (.ireturn, 1) := by decide +kernel
theorem dL_law_990 : decode cL_law 990 = .ok (.aload_n 1, 1) := by decide +kernel
theorem dL_law_991 : decode cL_law 991 = .ok (.invokevirtual 114, 3) := by decide +kernel
theorem dL_law_994 : decode cL_law 994 = .ok (.aload_n 2, 1) := by decide +kernel
theorem dL_law_995 : decode cL_law 995 = .ok (.invokevirtual 117, 3) := by decide +kernel
theorem dL_law_998 : decode cL_law 998 = .ok (.if_icmp .eq 136, 3) := by decide +kernel
theorem dL_law_1001 : decode cL_law 1001 = .ok (.iconst 0, 1) := by decide +kernel
theorem dL_law_1002 : decode cL_law 1002 = .ok (.ireturn, 1) := by decide +kernel
theorem dL_law_1003 : decode cL_law 1003 = .ok (.aload_n 1, 1) := by decide +kernel
theorem dL_law_1004 : decode cL_law 1004 = .ok (.aload_n 0, 1) := by decide +kernel
theorem dL_law_1005 : decode cL_law 1005 = .ok (.iload_n 3, 1) := by decide +kernel
theorem dL_law_1006 : decode cL_law 1006 = .ok (.iconst 1, 1) := by decide +kernel
theorem dL_law_1007 : decode cL_law 1007 = .ok (.iadd, 1) := by decide +kernel
theorem dL_law_1008 : decode cL_law 1008 = .ok (.iaload, 1) := by decide +kernel
theorem dL_law_1009 : decode cL_law 1009 = .ok (.invokevirtual 118, 3) := by decide +kernel
theorem dL_law_1012 : decode cL_law 1012 = .ok (.aload_n 2, 1) := by decide +kernel
theorem dL_law_1013 : decode cL_law 1013 = .ok (.aload_n 0, 1) := by decide +kernel
theorem dL_law_1014 : decode cL_law 1014 = .ok (.iload_n 3, 1) := by decide +kernel
theorem dL_law_1015 : decode cL_law 1015 = .ok (.iconst 1, 1) := by decide +kernel
theorem dL_law_1016 : decode cL_law 1016 = .ok (.iadd, 1) := by decide +kernel
theorem dL_law_1017 : decode cL_law 1017 = .ok (.iaload, 1) := by decide +kernel
theorem dL_law_1018 : decode cL_law 1018 = .ok (.invokevirtual 121, 3) := by decide +kernel
theorem dL_law_1021 : decode cL_law 1021 = .ok (.if_icmp .eq 113, 3) := by decide +kernel
theorem dL_law_1024 : decode cL_law 1024 = .ok (.iconst 0, 1) := by decide +kernel
theorem dL_law_1025 : decode cL_law 1025 = .ok (.ireturn, 1) := by decide +kernel
theorem dL_law_1026 : decode cL_law 1026 = .ok (.aload_n 1, 1) := by decide +kernel
theorem dL_law_1027 : decode cL_law 1027 = .ok (.aload_n 0, 1) := by decide +kernel
theorem dL_law_1028 : decode cL_law 1028 = .ok (.iload_n 3, 1) := by decide +kernel
theorem dL_law_1029 : decode cL_law 1029 = .ok (.iconst 1, 1) := by decide +kernel
theorem dL_law_1030 : decode cL_law 1030 = .ok (.iadd, 1) := by decide +kernel
theorem dL_law_1031 : decode cL_law 1031 = .ok (.iaload, 1) := by decide +kernel
theorem dL_law_1032 : decode cL_law 1032 = .ok (.invokevirtual 122, 3) := by decide +kernel
theorem dL_law_1035 : decode cL_law 1035 = .ok (.aload_n 2, 1) := by decide +kernel
theorem dL_law_1036 : decode cL_law 1036 = .ok (.aload_n 0, 1) := by decide +kernel
theorem dL_law_1037 : decode cL_law 1037 = .ok (.iload_n 3, 1) := by decide +kernel
theorem dL_law_1038 : decode cL_law 1038 = .ok (.iconst 1, 1) := by decide +kernel
theorem dL_law_1039 : decode cL_law 1039 = .ok (.iadd, 1) := by decide +kernel
theorem dL_law_1040 : decode cL_law 1040 = .ok (.iaload, 1) := by decide +kernel
theorem dL_law_1041 : decode cL_law 1041 = .ok (.invokevirtual 125, 3) := by decide +kernel
theorem dL_law_1044 : decode cL_law 1044 = .ok (.if_icmp .eq 90, 3) := by decide +kernel
theorem dL_law_1047 : decode cL_law 1047 = .ok (.iconst 0, 1) := by decide +kernel
theorem dL_law_1048 : decode cL_law 1048 = .ok (.ireturn, 1) := by decide +kernel
theorem dL_law_1049 : decode cL_law 1049 = .ok (.aload_n 1, 1) := by decide +kernel
theorem dL_law_1050 : decode cL_law 1050 = .ok (.invokevirtual 126, 3) := by decide +kernel
theorem dL_law_1053 : decode cL_law 1053 = .ok (.aload_n 2, 1) := by decide +kernel
theorem dL_law_1054 : decode cL_law 1054 = .ok (.invokevirtual 129, 3) := by decide +kernel
theorem dL_law_1057 : decode cL_law 1057 = .ok (.if_icmp .eq 77, 3) := by decide +kernel
theorem dL_law_1060 : decode cL_law 1060 = .ok (.iconst 0, 1) := by decide +kernel
theorem dL_law_1061 : decode cL_law 1061 = .ok (.ireturn, 1) := by decide +kernel
theorem dL_law_1062 : decode cL_law 1062 = .ok (.aload_n 1, 1) := by decide +kernel
theorem dL_law_1063 : decode cL_law 1063 = .ok (.aload_n 0, 1) := by decide +kernel
theorem dL_law_1064 : decode cL_law 1064 = .ok (.iload_n 3, 1) := by decide +kernel
theorem dL_law_1065 : decode cL_law 1065 = .ok (.iconst 1, 1) := by decide +kernel
theorem dL_law_1066 : decode cL_law 1066 = .ok (.iadd, 1) := by decide +kernel
theorem dL_law_1067 : decode cL_law 1067 = .ok (.iaload, 1) := by decide +kernel
theorem dL_law_1068 : decode cL_law 1068 = .ok (.invokevirtual 130, 3) := by decide +kernel
theorem dL_law_1071 : decode cL_law 1071 = .ok (.aload_n 2, 1) := by decide +kernel
theorem dL_law_1072 : decode cL_law 1072 = .ok (.aload_n 0, 1) := by decide +kernel
theorem dL_law_1073 : decode cL_law 1073 = .ok (.iload_n 3, 1) := by decide +kernel
theorem dL_law_1074 : decode cL_law 1074 = .ok (.iconst 1, 1) := by decide +kernel
theorem dL_law_1075 : decode cL_law 1075 = .ok (.iadd, 1) := by decide +kernel
theorem dL_law_1076 : decode cL_law 1076 = .ok (.iaload, 1) := by decide +kernel
theorem dL_law_1077 : decode cL_law 1077 = .ok (.invokevirtual 133, 3) := by decide +kernel
theorem dL_law_1080 : decode cL_law 1080 = .ok (.if_icmp .eq 54, 3) := by decide +kernel
theorem dL_law_1083 : decode cL_law 1083 = .ok (.iconst 0, 1) := by decide +kernel
theorem dL_law_1084 : decode cL_law 1084 = .ok (.ireturn, 1) := by decide +kernel
theorem dL_law_1085 : decode cL_law 1085 = .ok (.aload_n 1, 1) := by decide +kernel
theorem dL_law_1086 : decode cL_law 1086 = .ok (.invokevirtual 134, 3) := by decide +kernel
theorem dL_law_1089 : decode cL_law 1089 = .ok (.aload_n 2, 1) := by decide +kernel
theorem dL_law_1090 : decode cL_law 1090 = .ok (.invokevirtual 137, 3) := by decide +kernel
theorem dL_law_1093 : decode cL_law 1093 = .ok (.if_icmp .eq 41, 3) := by decide +kernel
theorem dL_law_1096 : decode cL_law 1096 = .ok (.iconst 0, 1) := by decide +kernel
theorem dL_law_1097 : decode cL_law 1097 = .ok (.ireturn, 1) := by decide +kernel
theorem dL_law_1098 : decode cL_law 1098 = .ok (.aload_n 1, 1) := by decide +kernel
theorem dL_law_1099 : decode cL_law 1099 = .ok (.aload_n 0, 1) := by decide +kernel
theorem dL_law_1100 : decode cL_law 1100 = .ok (.iload_n 3, 1) := by decide +kernel
theorem dL_law_1101 : decode cL_law 1101 = .ok (.iconst 1, 1) := by decide +kernel
theorem dL_law_1102 : decode cL_law 1102 = .ok (.iadd, 1) := by decide +kernel
theorem dL_law_1103 : decode cL_law 1103 = .ok (.iaload, 1) := by decide +kernel
theorem dL_law_1104 : decode cL_law 1104 = .ok (.invokevirtual 138, 3) := by decide +kernel
theorem dL_law_1107 : decode cL_law 1107 = .ok (.aload_n 2, 1) := by decide +kernel
theorem dL_law_1108 : decode cL_law 1108 = .ok (.aload_n 0, 1) := by decide +kernel
theorem dL_law_1109 : decode cL_law 1109 = .ok (.iload_n 3, 1) := by decide +kernel
theorem dL_law_1110 : decode cL_law 1110 = .ok (.iconst 1, 1) := by decide +kernel
theorem dL_law_1111 : decode cL_law 1111 = .ok (.iadd, 1) := by decide +kernel
theorem dL_law_1112 : decode cL_law 1112 = .ok (.iaload, 1) := by decide +kernel
theorem dL_law_1113 : decode cL_law 1113 = .ok (.invokevirtual 141, 3) := by decide +kernel
theorem dL_law_1116 : decode cL_law 1116 = .ok (.if_icmp .eq 18, 3) := by decide +kernel
theorem dL_law_1119 : decode cL_law 1119 = .ok (.iconst 0, 1) := by decide +kernel
theorem dL_law_1120 : decode cL_law 1120 = .ok (.ireturn, 1) := by decide +kernel
theorem dL_law_1121 : decode cL_law 1121 = .ok (.aload_n 1, 1) := by decide +kernel
theorem dL_law_1122 : decode cL_law 1122 = .ok (.invokevirtual 142, 3) := by decide +kernel
theorem dL_law_1125 : decode cL_law 1125 = .ok (.aload_n 2, 1) := by decide +kernel
theorem dL_law_1126 : decode cL_law 1126 = .ok (.invokevirtual 145, 3) := by decide +kernel
theorem dL_law_1129 : decode cL_law 1129 = .ok (.if_icmp .eq 5, 3) := by decide +kernel
theorem dL_law_1132 : decode cL_law 1132 = .ok (.iconst 0, 1) := by decide +kernel
theorem dL_law_1133 : decode cL_law 1133 = .ok (.ireturn, 1) := by decide +kernel
theorem dL_law_1134 : decode cL_law 1134 = .ok (.iinc 3 7, 3) := by decide +kernel
theorem dL_law_1137 : decode cL_law 1137 = .ok (.goto (-1119), 3) := by decide +kernel
theorem dL_law_1140 : decode cL_law 1140 = .ok (.iconst 1, 1) := by decide +kernel
theorem dL_law_1141 : decode cL_law 1141 = .ok (.ireturn, 1) := by decide +kernel
end
section
/-! THE FLAT STORE: the objects that the law makes, by number in the order in which they are made (4, 5 ..), behind the three static arrays (1, 2, 3); 0 is null.
What the slots hold: whole numbers (S.1), numbers of objects (S.2.1); S.2.2: the number of the next object. -/
abbrev St : Type := (Nat → Nat → Int32) × (Nat → Nat → Nat) × Nat
abbrev GG : Type := Nat × (Nat → Nat) × va_G
abbrev CT : Type := Program × Launch × Env × Room × State × MethodId × Array Value × List Frame × Method × Code
/-- the kinds of the numbered objects (0..8 classes as in vwCl, 10 int[], 11 char[], 12 Frame[], 13 Scene[], 14 Thing[]) -/
def kdL : List Nat := [99, 10, 10, 10, 7, 3, 10, 14, 12, 10, 10, 5, 5, 5, 5, 0, 10, 0, 10, 0, 10, 0, 10, 0, 10, 13, 4, 11, 2, 10, 6, 10, 10, 10, 10, 1, 10, 10, 10, 10, 10, 0, 10, 10, 3, 10, 14, 12, 10, 10, 5, 5, 5, 5, 0, 10, 0, 10, 0, 10, 0, 10, 0, 10, 3, 10, 14, 12, 10, 10, 5, 5, 5, 5, 0, 10, 0, 10, 0, 10, 0, 10, 0, 10, 3, 10, 14, 12, 10, 10, 5, 5, 5, 5, 0, 10, 0, 10, 0, 10, 0, 10, 0, 10, 3, 10, 14, 12, 10, 10, 5, 5, 5, 5, 0, 10, 0, 10, 0, 10, 0, 10, 0, 10, 8, 10, 10, 10, 10, 10, 10]
def lnL : List Nat := [0, 8, 8, 8, 8, 10, 8, 4, 5, 10, 10, 6, 6, 6, 6, 3, 160, 3, 160, 3, 160, 3, 160, 3, 160, 4, 10, 80, 4, 6, 4, 10, 10, 10, 17, 11, 50, 50, 50, 16, 16, 3, 160, 16, 10, 8, 4, 5, 10, 10, 6, 6, 6, 6, 3, 160, 3, 160, 3, 160, 3, 160, 3, 160, 10, 8, 4, 5, 10, 10, 6, 6, 6, 6, 3, 160, 3, 160, 3, 160, 3, 160, 3, 160, 10, 8, 4, 5, 10, 10, 6, 6, 6, 6, 3, 160, 3, 160, 3, 160, 3, 160, 3, 160, 10, 8, 4, 5, 10, 10, 6, 6, 6, 6, 3, 160, 3, 160, 3, 160, 3, 160, 3, 160, 18, 867, 3468, 867, 80, 17, 6]

def kd (k : Nat) : Nat := kdL.getD k 99
def ln (k : Nat) : Nat := lnL.getD k 0
/-- which slots hold references -/
def rf : Nat → Nat → Bool
  | 0, j => j == 2
  | 1, j => j == 0 || j == 1 || j == 2 || j == 4 || j == 5
  | 2, j => j == 1
  | 3, j => j == 0 || j == 1 || j == 3 || j == 8 || j == 9
  | 4, j => j == 0 || j == 2
  | 6, _ => true
  | 7, j => !(j == 2)
  | 8, j => j == 0 || j == 1 || j == 3 || j == 4 || j == 6 || j == 13
  | 12, _ => true
  | 13, _ => true
  | 14, _ => true
  | _, _ => false
def tyA : Nat → FieldType
  | 11 => .char
  | 12 => .object RX0
  | 13 => .object RX3
  | 14 => .object RX5
  | _ => .int
def tyF : Nat → Nat → FieldType
  | 0 => tyX0
  | 1 => tyX1
  | 2 => tyX2
  | 3 => tyX3
  | 4 => tyX4
  | 5 => tyX5
  | 6 => tyX6
  | 7 => tyX7
  | _ => tyX8
def ad (g : GG) (k : Nat) : Nat := if k < 4 then g.2.1 k else g.1 + (k - 4)
def rv (g : GG) (k : Nat) : Value := if k = 0 then .null else .ref (ad g k)
def fv (g : GG) (S : St) (k j : Nat) : Value := if rf (kd k) j = true then rv g (S.2.1 k j) else .int (S.1 k j)
def Ag (g : GG) : Nat → Prop := fun q => g.1 ≤ q
def upI (S : St) (k j : Nat) (v : Int32) : St := (fun a b => if a = k ∧ b = j then v else S.1 a b, S.2.1, S.2.2)
def upR (S : St) (k j v : Nat) : St := (S.1, fun a b => if a = k ∧ b = j then v else S.2.1 a b, S.2.2)
def newS (S : St) : St := (fun a b => if a = S.2.2 then 0 else S.1 a b, fun a b => if a = S.2.2 then 0 else S.2.1 a b, S.2.2 + 1)
abbrev okc (S : St) (c k : Nat) : Prop := kd k = c ∧ k < S.2.2
abbrev ina (S : St) (c k : Nat) (i : Int32) : Prop := (kd k = c ∧ k < S.2.2) ∧ 0 ≤ i ∧ i.toNatClampNeg < ln k
abbrev inw (S : St) (c k : Nat) (i : Int32) : Prop := ((kd k = c ∧ k < S.2.2) ∧ 0 ≤ i ∧ i.toNatClampNeg < ln k) ∧ 4 ≤ k
def chk {β : Type} (c : Prop) [Decidable c] (o : Option β) : Option β := if c then o else none
def bnd {α β : Type} (o : Option α) (k : α → Option β) : Option β := match o with
  | none => none
  | some a => k a
theorem chk_some {β : Type} {c : Prop} [Decidable c] {o : Option β} {b : β} (h : chk c o = some b) : c ∧ o = some b := by
  unfold chk at h
  by_cases hc : c
  · rw [if_pos hc] at h; exact ⟨hc, h⟩
  · rw [if_neg hc] at h; cases h
theorem bnd_some {α β : Type} {o : Option α} {k : α → Option β} {b : β} (h : bnd o k = some b) : ∃ a, o = some a ∧ k a = some b := by
  cases o with
  | none => cases h
  | some a => exact ⟨a, rfl, h⟩
theorem ad_hi {g : GG} {k : Nat} (h : 4 ≤ k) : ad g k = g.1 + (k - 4) := if_neg (by omega)
theorem ad_lo {g : GG} {k : Nat} (h : k < 4) : ad g k = g.2.1 k := if_pos h
theorem kd_pos {k c : Nat} (h : kd k = c) (hc : c ≠ 99) : k ≠ 0 := by
  rintro rfl
  exact hc h.symm
theorem kd_hi {k c : Nat} (h : kd k = c) (hc : c < 9) : 4 ≤ k := by
  rcases Nat.lt_or_ge k 4 with q | q
  · exfalso
    have hk : k = 0 ∨ k = 1 ∨ k = 2 ∨ k = 3 := by omega
    have e0 : kd 0 = 99 := rfl
    have e1 : kd 1 = 10 := rfl
    have e2 : kd 2 = 10 := rfl
    have e3 : kd 3 = 10 := rfl
    rcases hk with rfl | rfl | rfl | rfl <;> omega
  · exact q
theorem rv_ref {g : GG} {k : Nat} (h : k ≠ 0) : rv g k = .ref (ad g k) := if_neg h
theorem rv_cat (g : GG) (k : Nat) : (rv g k).category = 1 := by
  unfold rv
  split <;> rfl
theorem fv_int {g : GG} {S : St} {k j c : Nat} (h : kd k = c) (hr : rf c j = false) : fv g S k j = .int (S.1 k j) := by
  unfold fv
  rw [h, hr]
  rfl
theorem fv_ref {g : GG} {S : St} {k j c : Nat} (h : kd k = c) (hr : rf c j = true) : fv g S k j = rv g (S.2.1 k j) := by
  unfold fv
  rw [h, hr]
  rfl
/-- an array cell -/
def AK (ty : FieldType) (U : State) (a n : Nat) (f : Nat → Value) (H : Heap) : Prop := ∃ cell : Cell, H[a]? = some cell ∧ U.isArrayOf cell ty ∧ cell.vm ≠ .unknown ∧ n ≤ cell.slots.size ∧ cell.slots.size.toInt32 = Int32.ofNat n ∧ (∀ j : Nat, j < n → cell.slots[j]? = some (f j)) ∧ ∀ C : String, ty = .object C → ∃ (kA : Class) (comp : ClassId), U.vm.classes[cell.cls]? = some kA ∧ kA.kind = .array comp (.object C) ∧ U.vm.findClass C = some comp
def CK (g : GG) (U : State) (S : St) (H : Heap) (k : Nat) : Prop := (kd k < 9 → ∃ r : vw_C, vwCl[kd k]? = some r ∧ t_OB (ad g k) (g.2.2.1 (kd k)) r.2.2 (g.2.2.2 (kd k)) H (fv g S k)) ∧ (9 < kd k → AK (tyA (kd k)) U (ad g k) (ln k) (fv g S k) H)
def HP (g : GG) (U : State) (S : St) (H : Heap) : Prop := 4 ≤ S.2.2 ∧ H.size = g.1 + (S.2.2 - 4) ∧ (∀ k, k < 4 → g.2.1 k < g.1) ∧ ∀ k, 1 ≤ k → k < S.2.2 → CK g U S H k
theorem AK.moved {ty : FieldType} {u U : State} {a n : Nat} {f : Nat → Value} {H : Heap} (hvm : u.vm.Alike U.vm) (h : AK ty u a n f H) : AK ty U a n f H := by
  obtain ⟨cell, h1, h2, h3, h4, h5, h6, h7⟩ := h
  refine ⟨cell, h1, State.isArrayOf_alike hvm h2, h3, h4, h5, h6, fun C hC => ?_⟩
  obtain ⟨kA, comp, e1, e2, e3⟩ := h7 C hC
  obtain ⟨k', hk', he⟩ := hvm.2.2 _ _ e1
  exact ⟨k', comp, hk', by rw [he]; exact e2, by rw [hvm.findClass]; exact e3⟩
theorem HP.moved {g : GG} {u U : State} {S : St} {H : Heap} (hvm : u.vm.Alike U.vm) (h : HP g u S H) : HP g U S H :=
  ⟨h.1, h.2.1, h.2.2.1, fun k h1 h2 => ⟨(h.2.2.2 k h1 h2).1, fun q => ((h.2.2.2 k h1 h2).2 q).moved hvm⟩⟩
theorem ad_ne {g : GG} {U : State} {S : St} {H : Heap} (h : HP g U S H) {a b : Nat} (ha : 4 ≤ a) (hab : b ≠ a) : ad g b ≠ ad g a := by
  rw [ad_hi ha]
  rcases Nat.lt_or_ge b 4 with q | q
  · rw [ad_lo q]
    have := h.2.2.1 b q
    omega
  · rw [ad_hi q]
    omega
/-- one cell is written -/
theorem HP.put {g : GG} {U : State} {S S' : St} {H H1 : Heap} (h : HP g U S H) {a : Nat} (ha : 4 ≤ a) (hn : S'.2.2 = S.2.2) (hz : H1.size = H.size) (hq : ∀ q : Nat, q ≠ ad g a → H1[q]? = H[q]?) (ho : ∀ b, b ≠ a → fv g S' b = fv g S b) (hs : CK g U S' H1 a) : HP g U S' H1 := by
  refine ⟨by rw [hn]; exact h.1, by rw [hn, hz]; exact h.2.1, h.2.2.1, fun k h1 h2 => ?_⟩
  by_cases hk : k = a
  · rw [hk]; exact hs
  · have hc := h.2.2.2 k h1 (by rw [hn] at h2; exact h2)
    have hne := ad_ne h ha hk
    refine ⟨fun q => ?_, fun q => ?_⟩
    · obtain ⟨r, e1, e2⟩ := hc.1 q
      refine ⟨r, e1, ?_⟩
      rw [ho k hk]
      exact e2.kept (hq _ hne)
    · obtain ⟨cell, e1, e2⟩ := hc.2 q
      unfold AK
      rw [ho k hk]
      exact ⟨cell, by rw [hq _ hne]; exact e1, e2⟩
theorem fv_upI {g : GG} {S : St} {k j : Nat} {v : Int32} {b : Nat} (h : b ≠ k) : fv g (upI S k j v) b = fv g S b := by
  funext i
  simp [fv, upI, h]
theorem fv_upR {g : GG} {S : St} {k j v : Nat} {b : Nat} (h : b ≠ k) : fv g (upR S k j v) b = fv g S b := by
  funext i
  simp [fv, upR, h]
theorem fv_upI_self {g : GG} {S : St} {k j : Nat} {v : Int32} (hr : rf (kd k) j = false) (i : Nat) : fv g (upI S k j v) k i = updV (fv g S k) j (.int v) i := by
  by_cases hi : i = j
  · subst hi
    simp [fv, upI, updV, hr]
  · simp [fv, upI, updV, hi]
theorem fv_upR_self {g : GG} {S : St} {k j v : Nat} (hr : rf (kd k) j = true) (i : Nat) : fv g (upR S k j v) k i = updV (fv g S k) j (rv g v) i := by
  by_cases hi : i = j
  · subst hi
    simp [fv, upR, updV, hr]
  · simp [fv, upR, updV, hi]
/-! what is known of the classes -/
def nestW : Cond → Bool
  | .methodLinkNest _ _ _ _ => true
  | .fieldLinkNest _ _ _ _ _ _ => true
  | _ => false
def snm : Nat → String
  | 1 => "LEAST_SETTINGS"
  | 2 => "MOST_SETTINGS"
  | _ => "FIRST_SETTINGS"
def KU (g : GG) (U : State) : Prop := va_K g.2.2 vwCl [] U ∧ (∀ w ∈ lw_tbl, goodWord w = true → ∀ a : Array Value, w.before a U = true) ∧ (∀ w ∈ lw_tbl, nestW w = true → va_Nw w U) ∧ (∀ k, 1 ≤ k → k < 4 → va_Z RX7 (snm k) "[I" (.ref (g.2.1 k)) (Ag g) U U.heap) ∧ (va_AO RX0 U ∧ va_AO RX3 U ∧ va_AO RX5 U)
theorem KU.moved {g : GG} {s U : State} (hW : s.WarmedH U.vm) (hq : ∀ a : Nat, a < s.heap.size → ¬ Ag g a → U.heap[a]? = s.heap[a]?) (h : KU g s) : KU g U := by
  obtain ⟨h1, h2, h3, h4, h5, h6, h7⟩ := h
  refine ⟨va_K.moved hW.alike h1, fun w hw hg a => word_at hW (good_of_word hg) (h2 w hw hg #[]), fun w hw hn => ?_, fun k k1 k2 => (va_Z.moved hW.alike (h4 k k1 k2)).kept hq, h5.moved hW.alike, h6.moved hW.alike, h7.moved hW.alike⟩
  have h8 := h3 w hw hn
  cases w <;> first | (cases hn; done) | exact h8.warmM hW | exact h8.warmF hW
theorem vw_get {ci : Nat} {r : vw_C} (h : vwCl[ci]? = some r) : ci < 9 := (List.getElem?_eq_some_iff.mp h).1
theorem vw_lay : ∀ r ∈ vwCl, ∀ w ∈ u_ws r.1 r.2.1 r.2.2, w ∈ lw_tbl ∧ goodWord w = true := by decide +kernel
theorem vw_nm {ci : Nat} {r : vw_C} (h : vwCl[ci]? = some r) : ∀ a, a < r.2.2 → ∀ b, b < r.2.2 → a ≠ b → (r.2.1 a).2.1 ≠ (r.2.1 b).2.1 := by
  have hc := vw_get h
  have hk : ci = 0 ∨ ci = 1 ∨ ci = 2 ∨ ci = 3 ∨ ci = 4 ∨ ci = 5 ∨ ci = 6 ∨ ci = 7 ∨ ci = 8 := by omega
  rcases hk with rfl | rfl | rfl | rfl | rfl | rfl | rfl | rfl | rfl <;> cases h
  · exact nmX0
  · exact nmX1
  · exact nmX2
  · exact nmX3
  · exact nmX4
  · exact nmX5
  · exact nmX6
  · exact nmX7
  · exact nmX8
theorem vw_ty {ci : Nat} {r : vw_C} (h : vwCl[ci]? = some r) : ∀ k, k < r.2.2 → parseFieldDescriptor (r.2.1 k).2.2.1 = some (tyF ci k) := by
  have hc := vw_get h
  have hk : ci = 0 ∨ ci = 1 ∨ ci = 2 ∨ ci = 3 ∨ ci = 4 ∨ ci = 5 ∨ ci = 6 ∨ ci = 7 ∨ ci = 8 := by omega
  rcases hk with rfl | rfl | rfl | rfl | rfl | rfl | rfl | rfl | rfl <;> cases h
  · exact tyX0_ok
  · exact tyX1_ok
  · exact tyX2_ok
  · exact tyX3_ok
  · exact tyX4_ok
  · exact tyX5_ok
  · exact tyX6_ok
  · exact tyX7_ok
  · exact tyX8_ok
theorem KU.lay {g : GG} {U : State} (h : KU g U) {ci : Nat} {r : vw_C} (hr : vwCl[ci]? = some r) : ∀ w ∈ u_ws r.1 r.2.1 r.2.2, w.before #[] U = true := fun w hw => h.2.1 w (vw_lay r (List.mem_of_getElem? hr) w hw).1 (vw_lay r (List.mem_of_getElem? hr) w hw).2 #[]
end
section
/-! WALKS OVER THE FLAT STORE: J: from the frame at pc with the locals lv and the stack st, over any heap that holds S, if the computation o comes to b, the machine comes to Q b. -/
def lh (ls : Array Slot) (nL : Nat) (lv : List (Nat × Value)) : Prop := lv_has ls nL lv ∧ ∀ q ∈ lv, q.2.category = 1
def J {β : Type} (X : CT) (g : GG) (Q : β → State → Prop) (cf : Nat → Nat × Nat) (pc : Nat) (lv : List (Nat × Value)) (st : List Value) (S : St) (o : Option β) : Prop :=
  match X with
  | (p, l, e, R, s, m, args, below, meth, c) => ∀ b, o = some b → ∀ (H : Heap) (locs : List Loc) (ls : Array Slot), HP g s S H → va_S (Ag g) s.heap H locs → lh ls c.maxLocals lv → W p l e R s m args below meth c H locs (cf S.2.2).1 (cf S.2.2).2 (Q b) (F0 m pc ls st)
def CX (X : CT) (g : GG) (cc : ByteArray) (own : String) (ret : Option FieldType) (nL : Nat) (R0 : Room) : Prop :=
  match X with
  | (p, l, e, R, s, m, args, below, meth, c) => p.tables.exec = Jvm.exec ∧ c.code = cc ∧ c.maxLocals = nL ∧ s.vm.findClass own = some m.cls ∧ meth.sig.returnType = ret ∧ meth.locks = false ∧ KU g s ∧ R = R0 ∧ g.1 ≤ s.heap.size
def lk : List (Nat × Value) → Nat → Option Value
  | [], _ => none
  | (j, w) :: t, i => if j = i then some w else lk t i
def insv : List (Nat × Value) → Nat → Value → List (Nat × Value)
  | [], i, v => [(i, v)]
  | (j, w) :: t, i, v => if i < j then (i, v) :: (j, w) :: t else (j, w) :: insv t i v
def delv : List (Nat × Value) → Nat → List (Nat × Value)
  | [], _ => []
  | (j, w) :: t, i => if j = i then delv t i else (j, w) :: delv t i
def lvset (lv : List (Nat × Value)) (i : Nat) (v : Value) : List (Nat × Value) := insv (delv lv i) i v
theorem lk_mem : ∀ (lv : List (Nat × Value)) {i : Nat} {v : Value}, lk lv i = some v → (i, v) ∈ lv
  | [], i, v, h => by cases h
  | (j, w) :: t, i, v, h => by
    unfold lk at h
    by_cases hj : j = i
    · rw [if_pos hj] at h
      cases h
      subst hj
      exact List.mem_cons_self
    · rw [if_neg hj] at h
      exact List.mem_cons_of_mem _ (lk_mem t h)
theorem mem_insv : ∀ (lv : List (Nat × Value)) {i : Nat} {v : Value} {q : Nat × Value}, q ∈ insv lv i v → q = (i, v) ∨ q ∈ lv
  | [], i, v, q, h => by
    unfold insv at h
    exact Or.inl (List.mem_singleton.mp h)
  | (j, w) :: t, i, v, q, h => by
    unfold insv at h
    by_cases hj : i < j
    · rw [if_pos hj] at h
      exact List.mem_cons.mp h
    · rw [if_neg hj] at h
      rcases List.mem_cons.mp h with h | h
      · exact Or.inr (by rw [h]; exact List.mem_cons_self)
      · rcases mem_insv t h with h | h
        · exact Or.inl h
        · exact Or.inr (List.mem_cons_of_mem _ h)
theorem mem_delv : ∀ (lv : List (Nat × Value)) {i : Nat} {q : Nat × Value}, q ∈ delv lv i → q ∈ lv ∧ q.1 ≠ i
  | [], i, q, h => by cases h
  | (j, w) :: t, i, q, h => by
    unfold delv at h
    by_cases hj : j = i
    · rw [if_pos hj] at h
      exact ⟨List.mem_cons_of_mem _ (mem_delv t h).1, (mem_delv t h).2⟩
    · rw [if_neg hj] at h
      rcases List.mem_cons.mp h with h | h
      · exact ⟨by rw [h]; exact List.mem_cons_self, by rw [h]; exact hj⟩
      · exact ⟨List.mem_cons_of_mem _ (mem_delv t h).1, (mem_delv t h).2⟩
theorem lh.at {ls : Array Slot} {nL : Nat} {lv : List (Nat × Value)} (h : lh ls nL lv) {i : Nat} {v : Value} (hk : lk lv i = some v) : ls[i]? = some (.val v) := h.1.2.2 (i, v) (lk_mem lv hk)
theorem lh.sub {ls : Array Slot} {nL : Nat} {lv lv' : List (Nat × Value)} (h : lh ls nL lv) (hs : ∀ q ∈ lv', q ∈ lv) : lh ls nL lv' := ⟨⟨h.1.1, h.1.2.1, fun q hq => h.1.2.2 q (hs q hq)⟩, fun q hq => h.2 q (hs q hq)⟩
theorem lh.set {ls ls' : Array Slot} {nL : Nat} {lv : List (Nat × Value)} (h : lh ls nL lv) {i : Nat} {v : Value} (hv : v.category = 1) (h' : lv_has ls' nL ((i, v) :: lv.filter (fun q => !(q.1 == i) && !(q.1 + 1 == i && q.2.category == 2)))) : lh ls' nL (lvset lv i v) := by
  have key : ∀ q ∈ lvset lv i v, q = (i, v) ∨ (q ∈ lv ∧ q.1 ≠ i) := by
    intro q hq
    rcases mem_insv _ hq with h1 | h1
    · exact Or.inl h1
    · exact Or.inr (mem_delv _ h1)
  refine ⟨⟨h'.1, h'.2.1, fun q hq => ?_⟩, fun q hq => ?_⟩
  · refine h'.2.2 q ?_
    rcases key q hq with h1 | ⟨h1, h2⟩
    · rw [h1]; exact List.mem_cons_self
    · refine List.mem_cons_of_mem _ (List.mem_filter.mpr ⟨h1, ?_⟩)
      have hc := h.2 q h1
      simp [h2, hc]
  · rcases key q hq with h1 | ⟨h1, h2⟩
    · rw [h1]; exact hv
    · exact h.2 q h1
theorem HP.free {g : GG} {U : State} {S : St} {H : Heap} (h : HP g U S H) : g.1 ≤ H.size := by
  rw [h.2.1]; omega
section JR
variable {β : Type} {X : CT} {g : GG} {Q : β → State → Prop} {cf : Nat → Nat × Nat} {pc : Nat} {lv : List (Nat × Value)} {st : List Value} {S : St} {o o1 o2 : Option β} {cc : ByteArray} {own : String} {ret : Option FieldType} {nL : Nat} {R0 : Room}
theorem J.none : J X g Q cf pc lv st S (none : Option β) := by
  obtain ⟨p, l, e, R, s, m, args, below, meth, c⟩ := X
  intro b hb
  cases hb
theorem J.sub {lv' : List (Nat × Value)} (hs : ∀ q ∈ lv', q ∈ lv) (kk : J X g Q cf pc lv' st S o) : J X g Q cf pc lv st S o := by
  obtain ⟨p, l, e, R, s, m, args, below, meth, c⟩ := X
  intro b hb H locs ls hP hS hl
  exact kk b hb H locs ls hP hS (hl.sub hs)
theorem J.ite {cnd : Prop} [Decidable cnd] (kt : cnd → J X g Q cf pc lv st S o1) (kf : ¬ cnd → J X g Q cf pc lv st S o2) : J X g Q cf pc lv st S (if cnd then o1 else o2) := by
  by_cases h : cnd
  · rw [if_pos h]; exact kt h
  · rw [if_neg h]; exact kf h
theorem J.ck {cnd : Prop} [Decidable cnd] (kt : cnd → J X g Q cf pc lv st S o) : J X g Q cf pc lv st S (chk cnd o) := by
  by_cases h : cnd
  · rw [show chk cnd o = o from if_pos h]
    exact kt h
  · rw [show chk cnd o = Option.none from if_neg h]
    exact J.none
theorem J.iconst (C : CX X g cc own ret nL R0) {n : Int} {v : Int32} (hdg : decode cc pc = .ok (.iconst n, 1)) (hv : Int32.ofInt n = v) (kk : J X g Q cf (pc + 1) lv (.int v :: st) S o) : J X g Q cf pc lv st S o := by
  obtain ⟨p, l, e, R, s, m, args, below, meth, c⟩ := X
  obtain ⟨hx, hb, hml, hown, hr, hlk, hK, hR, hg⟩ := C
  intro b hb0 H locs ls hP hS hl
  exact lv_iconst hx hb hdg hv (kk b hb0 H locs ls hP hS hl)
theorem J.bipush (C : CX X g cc own ret nL R0) {n : Int} {v : Int32} (hdg : decode cc pc = .ok (.bipush n, 2)) (hv : (Int8.ofInt n).toInt32 = v) (kk : J X g Q cf (pc + 2) lv (.int v :: st) S o) : J X g Q cf pc lv st S o := by
  obtain ⟨p, l, e, R, s, m, args, below, meth, c⟩ := X
  obtain ⟨hx, hb, hml, hown, hr, hlk, hK, hR, hg⟩ := C
  intro b hb0 H locs ls hP hS hl
  exact lv_bipush hx hb hdg hv (kk b hb0 H locs ls hP hS hl)
theorem J.sipush (C : CX X g cc own ret nL R0) {n : Int} {v : Int32} (hdg : decode cc pc = .ok (.sipush n, 3)) (hv : (Int16.ofInt n).toInt32 = v) (kk : J X g Q cf (pc + 3) lv (.int v :: st) S o) : J X g Q cf pc lv st S o := by
  obtain ⟨p, l, e, R, s, m, args, below, meth, c⟩ := X
  obtain ⟨hx, hb, hml, hown, hr, hlk, hK, hR, hg⟩ := C
  intro b hb0 H locs ls hP hS hl
  exact lv_sipush hx hb hdg hv (kk b hb0 H locs ls hP hS hl)
theorem J.ldc (C : CX X g cc own ret nL R0) {idx : Nat} {v : Int32} (hw : Cond.constant own idx v ∈ lw_tbl) (hdg : decode cc pc = .ok (.ldc idx, 2)) (kk : J X g Q cf (pc + 2) lv (.int v :: st) S o) : J X g Q cf pc lv st S o := by
  obtain ⟨p, l, e, R, s, m, args, below, meth, c⟩ := X
  obtain ⟨hx, hb, hml, hown, hr, hlk, hK, hR, hg⟩ := C
  intro b hb0 H locs ls hP hS hl
  exact lv_ldc hx hb hown (hK.2.1 _ hw rfl args) hdg (kk b hb0 H locs ls hP hS hl)
theorem J.ldcw (C : CX X g cc own ret nL R0) {idx : Nat} {v : Int32} (hw : Cond.constant own idx v ∈ lw_tbl) (hdg : decode cc pc = .ok (.ldc_w idx, 3)) (kk : J X g Q cf (pc + 3) lv (.int v :: st) S o) : J X g Q cf pc lv st S o := by
  obtain ⟨p, l, e, R, s, m, args, below, meth, c⟩ := X
  obtain ⟨hx, hb, hml, hown, hr, hlk, hK, hR, hg⟩ := C
  intro b hb0 H locs ls hP hS hl
  exact lv_ldcw hx hb hown (hK.2.1 _ hw rfl args) hdg (kk b hb0 H locs ls hP hS hl)
theorem J.iload_n (C : CX X g cc own ret nL R0) {k : Fin 4} {i : Nat} {x : Int32} (hdg : decode cc pc = .ok (.iload_n k, 1)) (hi : (k : Nat) = i) (h : lk lv i = some (.int x)) (kk : J X g Q cf (pc + 1) lv (.int x :: st) S o) : J X g Q cf pc lv st S o := by
  obtain ⟨p, l, e, R, s, m, args, below, meth, c⟩ := X
  obtain ⟨hx, hb, hml, hown, hr, hlk, hK, hR, hg⟩ := C
  intro b hb0 H locs ls hP hS hl
  exact lv_iload_n hx hb hdg hi (hl.at h) (kk b hb0 H locs ls hP hS hl)
theorem J.iload (C : CX X g cc own ret nL R0) {i : Nat} {x : Int32} (hdg : decode cc pc = .ok (.iload i, 2)) (h : lk lv i = some (.int x)) (kk : J X g Q cf (pc + 2) lv (.int x :: st) S o) : J X g Q cf pc lv st S o := by
  obtain ⟨p, l, e, R, s, m, args, below, meth, c⟩ := X
  obtain ⟨hx, hb, hml, hown, hr, hlk, hK, hR, hg⟩ := C
  intro b hb0 H locs ls hP hS hl
  exact lv_iload hx hb hdg (hl.at h) (kk b hb0 H locs ls hP hS hl)
theorem J.aload_n (C : CX X g cc own ret nL R0) {k : Fin 4} {i x : Nat} (hdg : decode cc pc = .ok (.aload_n k, 1)) (hi : (k : Nat) = i) (h : lk lv i = some (rv g x)) (kk : J X g Q cf (pc + 1) lv (rv g x :: st) S o) : J X g Q cf pc lv st S o := by
  obtain ⟨p, l, e, R, s, m, args, below, meth, c⟩ := X
  obtain ⟨hx, hb, hml, hown, hr, hlk, hK, hR, hg⟩ := C
  intro b hb0 H locs ls hP hS hl
  have k1 := kk b hb0 H locs ls hP hS hl
  have h1 := hl.at h
  unfold rv at h1 k1
  by_cases hz : x = 0
  · rw [if_pos hz] at h1 k1
    exact lv_aload_nN hx hb hdg hi h1 k1
  · rw [if_neg hz] at h1 k1
    exact lv_aload_n hx hb hdg hi h1 k1
theorem J.aload (C : CX X g cc own ret nL R0) {i x : Nat} (hdg : decode cc pc = .ok (.aload i, 2)) (h : lk lv i = some (rv g x)) (kk : J X g Q cf (pc + 2) lv (rv g x :: st) S o) : J X g Q cf pc lv st S o := by
  obtain ⟨p, l, e, R, s, m, args, below, meth, c⟩ := X
  obtain ⟨hx, hb, hml, hown, hr, hlk, hK, hR, hg⟩ := C
  intro b hb0 H locs ls hP hS hl
  have k1 := kk b hb0 H locs ls hP hS hl
  have h1 := hl.at h
  unfold rv at h1 k1
  by_cases hz : x = 0
  · rw [if_pos hz] at h1 k1
    exact lv_aloadN hx hb hdg h1 k1
  · rw [if_neg hz] at h1 k1
    exact lv_aload hx hb hdg h1 k1
theorem J.istore_n (C : CX X g cc own ret nL R0) {k : Fin 4} {i : Nat} {x : Int32} (hdg : decode cc pc = .ok (.istore_n k, 1)) (hi : (k : Nat) = i) {lv' : List (Nat × Value)} (hn : i < nL) (hlv : lvset lv i (.int x) = lv') (kk : J X g Q cf (pc + 1) lv' st S o) : J X g Q cf pc lv ((.int x) :: st) S o := by
  obtain ⟨p, l, e, R, s, m, args, below, meth, c⟩ := X
  obtain ⟨hx, hb, hml, hown, hr, hlk, hK, hR, hg⟩ := C
  subst hlv
  intro b hb0 H locs ls hP hS hl
  have hn2 : i < c.maxLocals := by rw [hml]; exact hn
  exact lv_istore_n hx hb hdg hi hl.1 hn2 rfl (fun ls1 h1 => kk b hb0 H locs ls1 hP hS (hl.set rfl h1))
theorem J.istore (C : CX X g cc own ret nL R0) {i : Nat} {x : Int32} (hdg : decode cc pc = .ok (.istore i, 2)) {lv' : List (Nat × Value)} (hn : i < nL) (hlv : lvset lv i (.int x) = lv') (kk : J X g Q cf (pc + 2) lv' st S o) : J X g Q cf pc lv ((.int x) :: st) S o := by
  obtain ⟨p, l, e, R, s, m, args, below, meth, c⟩ := X
  obtain ⟨hx, hb, hml, hown, hr, hlk, hK, hR, hg⟩ := C
  subst hlv
  intro b hb0 H locs ls hP hS hl
  have hn2 : i < c.maxLocals := by rw [hml]; exact hn
  exact lv_istore hx hb hdg hl.1 hn2 rfl (fun ls1 h1 => kk b hb0 H locs ls1 hP hS (hl.set rfl h1))
theorem J.astore_n (C : CX X g cc own ret nL R0) {k : Fin 4} {i x : Nat} (hdg : decode cc pc = .ok (.astore_n k, 1)) (hi : (k : Nat) = i) {lv' : List (Nat × Value)} (hn : i < nL) (hlv : lvset lv i (rv g x) = lv') (kk : J X g Q cf (pc + 1) lv' st S o) : J X g Q cf pc lv ((rv g x) :: st) S o := by
  obtain ⟨p, l, e, R, s, m, args, below, meth, c⟩ := X
  obtain ⟨hx, hb, hml, hown, hr, hlk, hK, hR, hg⟩ := C
  subst hlv
  intro b hb0 H locs ls hP hS hl
  have hn2 : i < c.maxLocals := by rw [hml]; exact hn
  have k1 : ∀ ls1 : Array Slot, lv_has ls1 c.maxLocals ((i, rv g x) :: lv.filter (fun q => !(q.1 == i) && !(q.1 + 1 == i && q.2.category == 2))) → _ := fun ls1 h1 => kk b hb0 H locs ls1 hP hS (hl.set (rv_cat g x) h1)
  unfold rv at k1 ⊢
  by_cases hz : x = 0
  · rw [if_pos hz] at k1 ⊢
    exact lv_astore_nN hx hb hdg hi hl.1 hn2 rfl k1
  · rw [if_neg hz] at k1 ⊢
    exact lv_astore_n hx hb hdg hi hl.1 hn2 rfl k1
theorem J.astore (C : CX X g cc own ret nL R0) {i x : Nat} (hdg : decode cc pc = .ok (.astore i, 2)) {lv' : List (Nat × Value)} (hn : i < nL) (hlv : lvset lv i (rv g x) = lv') (kk : J X g Q cf (pc + 2) lv' st S o) : J X g Q cf pc lv ((rv g x) :: st) S o := by
  obtain ⟨p, l, e, R, s, m, args, below, meth, c⟩ := X
  obtain ⟨hx, hb, hml, hown, hr, hlk, hK, hR, hg⟩ := C
  subst hlv
  intro b hb0 H locs ls hP hS hl
  have hn2 : i < c.maxLocals := by rw [hml]; exact hn
  have k1 : ∀ ls1 : Array Slot, lv_has ls1 c.maxLocals ((i, rv g x) :: lv.filter (fun q => !(q.1 == i) && !(q.1 + 1 == i && q.2.category == 2))) → _ := fun ls1 h1 => kk b hb0 H locs ls1 hP hS (hl.set (rv_cat g x) h1)
  unfold rv at k1 ⊢
  by_cases hz : x = 0
  · rw [if_pos hz] at k1 ⊢
    exact lv_astoreN hx hb hdg hl.1 hn2 rfl k1
  · rw [if_neg hz] at k1 ⊢
    exact lv_astore hx hb hdg hl.1 hn2 rfl k1
theorem J.iinc (C : CX X g cc own ret nL R0) {i : Nat} {n : Int} {x v : Int32} {lv' : List (Nat × Value)} (hdg : decode cc pc = .ok (.iinc i n, 3)) (h : lk lv i = some (.int x)) (hn : i < nL) (hv : Int32.ofInt n = v) (hlv : lvset lv i (.int (x + v)) = lv') (kk : J X g Q cf (pc + 3) lv' st S o) : J X g Q cf pc lv st S o := by
  obtain ⟨p, l, e, R, s, m, args, below, meth, c⟩ := X
  obtain ⟨hx, hb, hml, hown, hr, hlk, hK, hR, hg⟩ := C
  subst hlv
  subst hv
  intro b hb0 H locs ls hP hS hl
  have hn2 : i < c.maxLocals := by rw [hml]; exact hn
  obtain ⟨k, hk⟩ := List.getElem?_of_mem (lk_mem lv h)
  exact lv_iinc hx hb hdg hl.1 hk rfl hn2 rfl (fun ls1 h1 => kk b hb0 H locs ls1 hP hS (hl.set rfl h1))
theorem J.iadd (C : CX X g cc own ret nL R0) {x y : Int32} (hdg : decode cc pc = .ok (.iadd, 1)) (kk : J X g Q cf (pc + 1) lv (.int (x + y) :: st) S o) : J X g Q cf pc lv (.int y :: .int x :: st) S o := by
  obtain ⟨p, l, e, R, s, m, args, below, meth, c⟩ := X
  obtain ⟨hx, hb, hml, hown, hr, hlk, hK, hR, hg⟩ := C
  intro b hb0 H locs ls hP hS hl
  exact lv_iadd hx hb hdg (kk b hb0 H locs ls hP hS hl)
theorem J.isub (C : CX X g cc own ret nL R0) {x y : Int32} (hdg : decode cc pc = .ok (.isub, 1)) (kk : J X g Q cf (pc + 1) lv (.int (x - y) :: st) S o) : J X g Q cf pc lv (.int y :: .int x :: st) S o := by
  obtain ⟨p, l, e, R, s, m, args, below, meth, c⟩ := X
  obtain ⟨hx, hb, hml, hown, hr, hlk, hK, hR, hg⟩ := C
  intro b hb0 H locs ls hP hS hl
  exact lv_isub hx hb hdg (kk b hb0 H locs ls hP hS hl)
theorem J.imul (C : CX X g cc own ret nL R0) {x y : Int32} (hdg : decode cc pc = .ok (.imul, 1)) (kk : J X g Q cf (pc + 1) lv (.int (x * y) :: st) S o) : J X g Q cf pc lv (.int y :: .int x :: st) S o := by
  obtain ⟨p, l, e, R, s, m, args, below, meth, c⟩ := X
  obtain ⟨hx, hb, hml, hown, hr, hlk, hK, hR, hg⟩ := C
  intro b hb0 H locs ls hP hS hl
  exact lv_imul hx hb hdg (kk b hb0 H locs ls hP hS hl)
theorem J.iand (C : CX X g cc own ret nL R0) {x y : Int32} (hdg : decode cc pc = .ok (.iand, 1)) (kk : J X g Q cf (pc + 1) lv (.int (x &&& y) :: st) S o) : J X g Q cf pc lv (.int y :: .int x :: st) S o := by
  obtain ⟨p, l, e, R, s, m, args, below, meth, c⟩ := X
  obtain ⟨hx, hb, hml, hown, hr, hlk, hK, hR, hg⟩ := C
  intro b hb0 H locs ls hP hS hl
  exact lv_iand hx hb hdg (kk b hb0 H locs ls hP hS hl)
theorem J.ior (C : CX X g cc own ret nL R0) {x y : Int32} (hdg : decode cc pc = .ok (.ior, 1)) (kk : J X g Q cf (pc + 1) lv (.int (x ||| y) :: st) S o) : J X g Q cf pc lv (.int y :: .int x :: st) S o := by
  obtain ⟨p, l, e, R, s, m, args, below, meth, c⟩ := X
  obtain ⟨hx, hb, hml, hown, hr, hlk, hK, hR, hg⟩ := C
  intro b hb0 H locs ls hP hS hl
  exact lv_ior hx hb hdg (kk b hb0 H locs ls hP hS hl)
theorem J.ixor (C : CX X g cc own ret nL R0) {x y : Int32} (hdg : decode cc pc = .ok (.ixor, 1)) (kk : J X g Q cf (pc + 1) lv (.int (x ^^^ y) :: st) S o) : J X g Q cf pc lv (.int y :: .int x :: st) S o := by
  obtain ⟨p, l, e, R, s, m, args, below, meth, c⟩ := X
  obtain ⟨hx, hb, hml, hown, hr, hlk, hK, hR, hg⟩ := C
  intro b hb0 H locs ls hP hS hl
  exact lv_ixor hx hb hdg (kk b hb0 H locs ls hP hS hl)
theorem J.ishl (C : CX X g cc own ret nL R0) {x y : Int32} (hdg : decode cc pc = .ok (.ishl, 1)) (kk : J X g Q cf (pc + 1) lv (.int (x <<< (y &&& 31)) :: st) S o) : J X g Q cf pc lv (.int y :: .int x :: st) S o := by
  obtain ⟨p, l, e, R, s, m, args, below, meth, c⟩ := X
  obtain ⟨hx, hb, hml, hown, hr, hlk, hK, hR, hg⟩ := C
  intro b hb0 H locs ls hP hS hl
  exact lv_ishl hx hb hdg (kk b hb0 H locs ls hP hS hl)
theorem J.ishr (C : CX X g cc own ret nL R0) {x y : Int32} (hdg : decode cc pc = .ok (.ishr, 1)) (kk : J X g Q cf (pc + 1) lv (.int (x >>> (y &&& 31)) :: st) S o) : J X g Q cf pc lv (.int y :: .int x :: st) S o := by
  obtain ⟨p, l, e, R, s, m, args, below, meth, c⟩ := X
  obtain ⟨hx, hb, hml, hown, hr, hlk, hK, hR, hg⟩ := C
  intro b hb0 H locs ls hP hS hl
  exact lv_ishr hx hb hdg (kk b hb0 H locs ls hP hS hl)
theorem J.ineg (C : CX X g cc own ret nL R0) {x : Int32} (hdg : decode cc pc = .ok (.ineg, 1)) (kk : J X g Q cf (pc + 1) lv (.int (-x) :: st) S o) : J X g Q cf pc lv (.int x :: st) S o := by
  obtain ⟨p, l, e, R, s, m, args, below, meth, c⟩ := X
  obtain ⟨hx, hb, hml, hown, hr, hlk, hK, hR, hg⟩ := C
  intro b hb0 H locs ls hP hS hl
  exact lv_ineg hx hb hdg (kk b hb0 H locs ls hP hS hl)
theorem J.iushr (C : CX X g cc own ret nL R0) {x y : Int32} (hdg : decode cc pc = .ok (.iushr, 1)) (kk : J X g Q cf (pc + 1) lv (.int (x.toUInt32 >>> (y.toUInt32 &&& Int32.toUInt32 31)).toInt32 :: st) S o) : J X g Q cf pc lv (.int y :: .int x :: st) S o := by
  obtain ⟨p, l, e, R, s, m, args, below, meth, c⟩ := X
  obtain ⟨hx, hb, hml, hown, hr, hlk, hK, hR, hg⟩ := C
  intro b hb0 H locs ls hP hS hl
  exact lv_iushr hx hb hdg rfl (kk b hb0 H locs ls hP hS hl)
theorem J.i2c (C : CX X g cc own ret nL R0) {x : Int32} (hdg : decode cc pc = .ok (.i2c, 1)) (kk : J X g Q cf (pc + 1) lv (.int (x.toUInt32 % 65536).toInt32 :: st) S o) : J X g Q cf pc lv (.int x :: st) S o := by
  obtain ⟨p, l, e, R, s, m, args, below, meth, c⟩ := X
  obtain ⟨hx, hb, hml, hown, hr, hlk, hK, hR, hg⟩ := C
  intro b hb0 H locs ls hP hS hl
  exact lv_i2c hx hb hdg rfl (kk b hb0 H locs ls hP hS hl)
theorem J.dup (C : CX X g cc own ret nL R0) {v : Value} (hdg : decode cc pc = .ok (.dup, 1)) (hv : v.category = 1) (kk : J X g Q cf (pc + 1) lv (v :: v :: st) S o) : J X g Q cf pc lv (v :: st) S o := by
  obtain ⟨p, l, e, R, s, m, args, below, meth, c⟩ := X
  obtain ⟨hx, hb, hml, hown, hr, hlk, hK, hR, hg⟩ := C
  intro b hb0 H locs ls hP hS hl
  exact lv_dup hx hb hdg hv (kk b hb0 H locs ls hP hS hl)
theorem J.dup2 (C : CX X g cc own ret nL R0) {v w : Value} (hdg : decode cc pc = .ok (.dup2, 1)) (hv : v.category = 1) (hw : w.category = 1) (kk : J X g Q cf (pc + 1) lv (v :: w :: v :: w :: st) S o) : J X g Q cf pc lv (v :: w :: st) S o := by
  obtain ⟨p, l, e, R, s, m, args, below, meth, c⟩ := X
  obtain ⟨hx, hb, hml, hown, hr, hlk, hK, hR, hg⟩ := C
  intro b hb0 H locs ls hP hS hl
  exact lv_dup2_11 hx hb hdg hv hw (kk b hb0 H locs ls hP hS hl)
theorem J.pop (C : CX X g cc own ret nL R0) {v : Value} (hdg : decode cc pc = .ok (.pop, 1)) (hv : v.category = 1) (kk : J X g Q cf (pc + 1) lv st S o) : J X g Q cf pc lv (v :: st) S o := by
  obtain ⟨p, l, e, R, s, m, args, below, meth, c⟩ := X
  obtain ⟨hx, hb, hml, hown, hr, hlk, hK, hR, hg⟩ := C
  intro b hb0 H locs ls hP hS hl
  exact lv_pop hx hb hdg hv (kk b hb0 H locs ls hP hS hl)
theorem J.anull (C : CX X g cc own ret nL R0) (hdg : decode cc pc = .ok (.aconst_null, 1)) (kk : J X g Q cf (pc + 1) lv (rv g 0 :: st) S o) : J X g Q cf pc lv st S o := by
  obtain ⟨p, l, e, R, s, m, args, below, meth, c⟩ := X
  obtain ⟨hx, hb, hml, hown, hr, hlk, hK, hR, hg⟩ := C
  intro b hb0 H locs ls hP hS hl
  exact lv_null hx hb hdg (kk b hb0 H locs ls hP hS hl)
theorem J.goto (C : CX X g cc own ret nL R0) {off : Int} {tgt : Nat} (hdg : decode cc pc = .ok (.goto off, 3)) (ht : (pc : Int) + off = (tgt : Int)) (kk : J X g Q cf tgt lv st S o) : J X g Q cf pc lv st S o := by
  obtain ⟨p, l, e, R, s, m, args, below, meth, c⟩ := X
  obtain ⟨hx, hb, hml, hown, hr, hlk, hK, hR, hg⟩ := C
  intro b hb0 H locs ls hP hS hl
  exact lv_goto hx hb hdg ht (kk b hb0 H locs ls hP hS hl)
theorem J.idiv (C : CX X g cc own ret nL R0) {x y : Int32} (hdg : decode cc pc = .ok (.idiv, 1)) (kk : J X g Q cf (pc + 1) lv (.int (x / y) :: st) S o) : J X g Q cf pc lv (.int y :: .int x :: st) S (chk (¬ y = 0) o) := by
  obtain ⟨p, l, e, R, s, m, args, below, meth, c⟩ := X
  obtain ⟨hx, hb, hml, hown, hr, hlk, hK, hR, hg⟩ := C
  intro b hb0 H locs ls hP hS hl
  obtain ⟨hok, hb1⟩ := chk_some hb0
  exact lv_idiv hx hb hdg hok (kk b hb1 H locs ls hP hS hl)
theorem J.irem (C : CX X g cc own ret nL R0) {x y : Int32} (hdg : decode cc pc = .ok (.irem, 1)) (kk : J X g Q cf (pc + 1) lv (.int (x - x / y * y) :: st) S o) : J X g Q cf pc lv (.int y :: .int x :: st) S (chk (¬ y = 0) o) := by
  obtain ⟨p, l, e, R, s, m, args, below, meth, c⟩ := X
  obtain ⟨hx, hb, hml, hown, hr, hlk, hK, hR, hg⟩ := C
  intro b hb0 H locs ls hP hS hl
  obtain ⟨hok, hb1⟩ := chk_some hb0
  exact lv_irem hx hb hdg hok (kk b hb1 H locs ls hP hS hl)
theorem J.icmp_eq (C : CX X g cc own ret nL R0) {x y : Int32} {off : Int} {tgt : Nat} (hdg : decode cc pc = .ok (.if_icmp .eq off, 3)) (ht : (pc : Int) + off = (tgt : Int)) (kt : J X g Q cf tgt lv st S o1) (kf : J X g Q cf (pc + 3) lv st S o2) : J X g Q cf pc lv (.int y :: .int x :: st) S (if x = y then o1 else o2) := by
  obtain ⟨p, l, e, R, s, m, args, below, meth, c⟩ := X
  obtain ⟨hx, hb, hml, hown, hr, hlk, hK, hR, hg⟩ := C
  intro b hb0 H locs ls hP hS hl
  exact lv_icmp_eq hx hb hdg ht (fun h => kt b (by rw [if_pos h] at hb0; exact hb0) H locs ls hP hS hl) (fun h => kf b (by rw [if_neg h] at hb0; exact hb0) H locs ls hP hS hl)
theorem J.if_eq (C : CX X g cc own ret nL R0) {x : Int32} {off : Int} {tgt : Nat} (hdg : decode cc pc = .ok (.ifCond .eq off, 3)) (ht : (pc : Int) + off = (tgt : Int)) (kt : J X g Q cf tgt lv st S o1) (kf : J X g Q cf (pc + 3) lv st S o2) : J X g Q cf pc lv (.int x :: st) S (if x = 0 then o1 else o2) := by
  obtain ⟨p, l, e, R, s, m, args, below, meth, c⟩ := X
  obtain ⟨hx, hb, hml, hown, hr, hlk, hK, hR, hg⟩ := C
  intro b hb0 H locs ls hP hS hl
  exact lv_if_eq hx hb hdg ht (fun h => kt b (by rw [if_pos h] at hb0; exact hb0) H locs ls hP hS hl) (fun h => kf b (by rw [if_neg h] at hb0; exact hb0) H locs ls hP hS hl)
theorem J.icmp_ne (C : CX X g cc own ret nL R0) {x y : Int32} {off : Int} {tgt : Nat} (hdg : decode cc pc = .ok (.if_icmp .ne off, 3)) (ht : (pc : Int) + off = (tgt : Int)) (kt : J X g Q cf tgt lv st S o1) (kf : J X g Q cf (pc + 3) lv st S o2) : J X g Q cf pc lv (.int y :: .int x :: st) S (if x = y then o2 else o1) := by
  obtain ⟨p, l, e, R, s, m, args, below, meth, c⟩ := X
  obtain ⟨hx, hb, hml, hown, hr, hlk, hK, hR, hg⟩ := C
  intro b hb0 H locs ls hP hS hl
  exact lv_icmp_ne hx hb hdg ht (fun h => kt b (by rw [if_neg h] at hb0; exact hb0) H locs ls hP hS hl) (fun h => kf b (by rw [if_pos h] at hb0; exact hb0) H locs ls hP hS hl)
theorem J.if_ne (C : CX X g cc own ret nL R0) {x : Int32} {off : Int} {tgt : Nat} (hdg : decode cc pc = .ok (.ifCond .ne off, 3)) (ht : (pc : Int) + off = (tgt : Int)) (kt : J X g Q cf tgt lv st S o1) (kf : J X g Q cf (pc + 3) lv st S o2) : J X g Q cf pc lv (.int x :: st) S (if x = 0 then o2 else o1) := by
  obtain ⟨p, l, e, R, s, m, args, below, meth, c⟩ := X
  obtain ⟨hx, hb, hml, hown, hr, hlk, hK, hR, hg⟩ := C
  intro b hb0 H locs ls hP hS hl
  exact lv_if_ne hx hb hdg ht (fun h => kt b (by rw [if_neg h] at hb0; exact hb0) H locs ls hP hS hl) (fun h => kf b (by rw [if_pos h] at hb0; exact hb0) H locs ls hP hS hl)
theorem J.icmp_lt (C : CX X g cc own ret nL R0) {x y : Int32} {off : Int} {tgt : Nat} (hdg : decode cc pc = .ok (.if_icmp .lt off, 3)) (ht : (pc : Int) + off = (tgt : Int)) (kt : J X g Q cf tgt lv st S o1) (kf : J X g Q cf (pc + 3) lv st S o2) : J X g Q cf pc lv (.int y :: .int x :: st) S (if x < y then o1 else o2) := by
  obtain ⟨p, l, e, R, s, m, args, below, meth, c⟩ := X
  obtain ⟨hx, hb, hml, hown, hr, hlk, hK, hR, hg⟩ := C
  intro b hb0 H locs ls hP hS hl
  exact lv_icmp_lt hx hb hdg ht (fun h => kt b (by rw [if_pos h] at hb0; exact hb0) H locs ls hP hS hl) (fun h => kf b (by rw [if_neg h] at hb0; exact hb0) H locs ls hP hS hl)
theorem J.if_lt (C : CX X g cc own ret nL R0) {x : Int32} {off : Int} {tgt : Nat} (hdg : decode cc pc = .ok (.ifCond .lt off, 3)) (ht : (pc : Int) + off = (tgt : Int)) (kt : J X g Q cf tgt lv st S o1) (kf : J X g Q cf (pc + 3) lv st S o2) : J X g Q cf pc lv (.int x :: st) S (if x < 0 then o1 else o2) := by
  obtain ⟨p, l, e, R, s, m, args, below, meth, c⟩ := X
  obtain ⟨hx, hb, hml, hown, hr, hlk, hK, hR, hg⟩ := C
  intro b hb0 H locs ls hP hS hl
  exact lv_if_lt hx hb hdg ht (fun h => kt b (by rw [if_pos h] at hb0; exact hb0) H locs ls hP hS hl) (fun h => kf b (by rw [if_neg h] at hb0; exact hb0) H locs ls hP hS hl)
theorem J.icmp_ge (C : CX X g cc own ret nL R0) {x y : Int32} {off : Int} {tgt : Nat} (hdg : decode cc pc = .ok (.if_icmp .ge off, 3)) (ht : (pc : Int) + off = (tgt : Int)) (kt : J X g Q cf tgt lv st S o1) (kf : J X g Q cf (pc + 3) lv st S o2) : J X g Q cf pc lv (.int y :: .int x :: st) S (if y ≤ x then o1 else o2) := by
  obtain ⟨p, l, e, R, s, m, args, below, meth, c⟩ := X
  obtain ⟨hx, hb, hml, hown, hr, hlk, hK, hR, hg⟩ := C
  intro b hb0 H locs ls hP hS hl
  exact lv_icmp_ge hx hb hdg ht (fun h => kt b (by rw [if_pos h] at hb0; exact hb0) H locs ls hP hS hl) (fun h => kf b (by rw [if_neg h] at hb0; exact hb0) H locs ls hP hS hl)
theorem J.if_ge (C : CX X g cc own ret nL R0) {x : Int32} {off : Int} {tgt : Nat} (hdg : decode cc pc = .ok (.ifCond .ge off, 3)) (ht : (pc : Int) + off = (tgt : Int)) (kt : J X g Q cf tgt lv st S o1) (kf : J X g Q cf (pc + 3) lv st S o2) : J X g Q cf pc lv (.int x :: st) S (if 0 ≤ x then o1 else o2) := by
  obtain ⟨p, l, e, R, s, m, args, below, meth, c⟩ := X
  obtain ⟨hx, hb, hml, hown, hr, hlk, hK, hR, hg⟩ := C
  intro b hb0 H locs ls hP hS hl
  exact lv_if_ge hx hb hdg ht (fun h => kt b (by rw [if_pos h] at hb0; exact hb0) H locs ls hP hS hl) (fun h => kf b (by rw [if_neg h] at hb0; exact hb0) H locs ls hP hS hl)
theorem J.icmp_gt (C : CX X g cc own ret nL R0) {x y : Int32} {off : Int} {tgt : Nat} (hdg : decode cc pc = .ok (.if_icmp .gt off, 3)) (ht : (pc : Int) + off = (tgt : Int)) (kt : J X g Q cf tgt lv st S o1) (kf : J X g Q cf (pc + 3) lv st S o2) : J X g Q cf pc lv (.int y :: .int x :: st) S (if y < x then o1 else o2) := by
  obtain ⟨p, l, e, R, s, m, args, below, meth, c⟩ := X
  obtain ⟨hx, hb, hml, hown, hr, hlk, hK, hR, hg⟩ := C
  intro b hb0 H locs ls hP hS hl
  exact lv_icmp_gt hx hb hdg ht (fun h => kt b (by rw [if_pos h] at hb0; exact hb0) H locs ls hP hS hl) (fun h => kf b (by rw [if_neg h] at hb0; exact hb0) H locs ls hP hS hl)
theorem J.if_gt (C : CX X g cc own ret nL R0) {x : Int32} {off : Int} {tgt : Nat} (hdg : decode cc pc = .ok (.ifCond .gt off, 3)) (ht : (pc : Int) + off = (tgt : Int)) (kt : J X g Q cf tgt lv st S o1) (kf : J X g Q cf (pc + 3) lv st S o2) : J X g Q cf pc lv (.int x :: st) S (if 0 < x then o1 else o2) := by
  obtain ⟨p, l, e, R, s, m, args, below, meth, c⟩ := X
  obtain ⟨hx, hb, hml, hown, hr, hlk, hK, hR, hg⟩ := C
  intro b hb0 H locs ls hP hS hl
  exact lv_if_gt hx hb hdg ht (fun h => kt b (by rw [if_pos h] at hb0; exact hb0) H locs ls hP hS hl) (fun h => kf b (by rw [if_neg h] at hb0; exact hb0) H locs ls hP hS hl)
theorem J.icmp_le (C : CX X g cc own ret nL R0) {x y : Int32} {off : Int} {tgt : Nat} (hdg : decode cc pc = .ok (.if_icmp .le off, 3)) (ht : (pc : Int) + off = (tgt : Int)) (kt : J X g Q cf tgt lv st S o1) (kf : J X g Q cf (pc + 3) lv st S o2) : J X g Q cf pc lv (.int y :: .int x :: st) S (if x ≤ y then o1 else o2) := by
  obtain ⟨p, l, e, R, s, m, args, below, meth, c⟩ := X
  obtain ⟨hx, hb, hml, hown, hr, hlk, hK, hR, hg⟩ := C
  intro b hb0 H locs ls hP hS hl
  exact lv_icmp_le hx hb hdg ht (fun h => kt b (by rw [if_pos h] at hb0; exact hb0) H locs ls hP hS hl) (fun h => kf b (by rw [if_neg h] at hb0; exact hb0) H locs ls hP hS hl)
theorem J.if_le (C : CX X g cc own ret nL R0) {x : Int32} {off : Int} {tgt : Nat} (hdg : decode cc pc = .ok (.ifCond .le off, 3)) (ht : (pc : Int) + off = (tgt : Int)) (kt : J X g Q cf tgt lv st S o1) (kf : J X g Q cf (pc + 3) lv st S o2) : J X g Q cf pc lv (.int x :: st) S (if x ≤ 0 then o1 else o2) := by
  obtain ⟨p, l, e, R, s, m, args, below, meth, c⟩ := X
  obtain ⟨hx, hb, hml, hown, hr, hlk, hK, hR, hg⟩ := C
  intro b hb0 H locs ls hP hS hl
  exact lv_if_le hx hb hdg ht (fun h => kt b (by rw [if_pos h] at hb0; exact hb0) H locs ls hP hS hl) (fun h => kf b (by rw [if_neg h] at hb0; exact hb0) H locs ls hP hS hl)
theorem J.ifnull (C : CX X g cc own ret nL R0) {a : Nat} {off : Int} {tgt : Nat} (hdg : decode cc pc = .ok (.ifnull off, 3)) (ht : (pc : Int) + off = (tgt : Int)) (kt : J X g Q cf tgt lv st S o1) (kf : J X g Q cf (pc + 3) lv st S o2) : J X g Q cf pc lv (rv g a :: st) S (if a = 0 then o1 else o2) := by
  obtain ⟨p, l, e, R, s, m, args, below, meth, c⟩ := X
  obtain ⟨hx, hb, hml, hown, hr, hlk, hK, hR, hg⟩ := C
  intro b hb0 H locs ls hP hS hl
  unfold rv
  by_cases h : a = 0
  · rw [if_pos h] at hb0 ⊢
    exact lv_ifnullN hx hb hdg ht (kt b hb0 H locs ls hP hS hl)
  · rw [if_neg h] at hb0 ⊢
    exact lv_ifnull hx hb hdg (kf b hb0 H locs ls hP hS hl)
theorem J.ifnonnull (C : CX X g cc own ret nL R0) {a : Nat} {off : Int} {tgt : Nat} (hdg : decode cc pc = .ok (.ifnonnull off, 3)) (ht : (pc : Int) + off = (tgt : Int)) (kt : J X g Q cf tgt lv st S o1) (kf : J X g Q cf (pc + 3) lv st S o2) : J X g Q cf pc lv (rv g a :: st) S (if a = 0 then o2 else o1) := by
  obtain ⟨p, l, e, R, s, m, args, below, meth, c⟩ := X
  obtain ⟨hx, hb, hml, hown, hr, hlk, hK, hR, hg⟩ := C
  intro b hb0 H locs ls hP hS hl
  unfold rv
  by_cases h : a = 0
  · rw [if_pos h] at hb0 ⊢
    exact lv_ifnonnullN hx hb hdg (kf b hb0 H locs ls hP hS hl)
  · rw [if_neg h] at hb0 ⊢
    exact lv_ifnonnull hx hb hdg ht (kt b hb0 H locs ls hP hS hl)
theorem J.tswIn (C : CX X g cc own ret nL R0) {dflt lo hi : Int} {offs : Array Int} {len : Nat} {x : Int32} (x0 : Int32) {off : Int} {tgt : Nat} (hdg : decode cc pc = .ok (.tableswitch dflt lo hi offs, len)) (h : x = x0) (h1 : ¬ x0.toInt < lo) (h2 : ¬ hi < x0.toInt) (ho : offs[(x0.toInt - lo).toNat]? = some off) (ht : (pc : Int) + off = (tgt : Int)) (kk : J X g Q cf tgt lv st S o) : J X g Q cf pc lv (.int x :: st) S o := by
  obtain ⟨p, l, e, R, s, m, args, below, meth, c⟩ := X
  obtain ⟨hx, hb, hml, hown, hr, hlk, hK, hR, hg⟩ := C
  intro b hb0 H locs ls hP hS hl
  subst h
  exact lv_tableIn hx hb hdg h1 h2 ho ht (kk b hb0 H locs ls hP hS hl)
theorem J.tswOut (C : CX X g cc own ret nL R0) {dflt lo hi : Int} {offs : Array Int} {len : Nat} {x : Int32} {tgt : Nat} (hdg : decode cc pc = .ok (.tableswitch dflt lo hi offs, len)) (h : x.toInt < lo ∨ hi < x.toInt) (ht : (pc : Int) + dflt = (tgt : Int)) (kk : J X g Q cf tgt lv st S o) : J X g Q cf pc lv (.int x :: st) S o := by
  obtain ⟨p, l, e, R, s, m, args, below, meth, c⟩ := X
  obtain ⟨hx, hb, hml, hown, hr, hlk, hK, hR, hg⟩ := C
  intro b hb0 H locs ls hP hS hl
  exact lv_tableOut hx hb hdg h ht (kk b hb0 H locs ls hP hS hl)
theorem J.lsw (C : CX X g cc own ret nL R0) {dflt : Int} {ps : Array (Int × Int)} {len : Nat} {x : Int32} {off : Int} {tgt : Nat} (hdg : decode cc pc = .ok (.lookupswitch dflt ps, len)) (hp : (ps.toList.zip (ps.toList.drop 1)).all (fun (a, next) => a.1 < next.1) = true) (ho : Op.lookupswitch.offset ps.toList dflt x.toInt = off) (ht : (pc : Int) + off = (tgt : Int)) (kk : J X g Q cf tgt lv st S o) : J X g Q cf pc lv (.int x :: st) S o := by
  obtain ⟨p, l, e, R, s, m, args, below, meth, c⟩ := X
  obtain ⟨hx, hb, hml, hown, hr, hlk, hK, hR, hg⟩ := C
  intro b hb0 H locs ls hP hS hl
  exact lv_lookup hx hb hdg hp ho ht (kk b hb0 H locs ls hP hS hl)
/-- a field's link: its class's number and the field's place -/
def FL (own : String) (idx ci j : Nat) : Prop := ∃ r : vw_C, vwCl[ci]? = some r ∧ j < r.2.2 ∧ Cond.fieldLink own idx (r.2.1 j).1 (r.2.1 j).2.1 (r.2.1 j).2.2.1 ∈ lw_tbl
theorem J.getV (C : CX X g cc own ret nL R0) {ci j idx a : Nat} (hf : FL own idx ci j) (hdg : decode cc pc = .ok (.getfield idx, 3)) (kk : J X g Q cf (pc + 3) lv (fv g S a j :: st) S o) : J X g Q cf pc lv (rv g a :: st) S (chk (okc S ci a) o) := by
  obtain ⟨p, l, e, R, s, m, args, below, meth, c⟩ := X
  obtain ⟨hx, hb, hml, hown, hr, hlk, hK, hR, hg⟩ := C
  intro b hb0 H locs ls hP hS hl
  obtain ⟨⟨hok, hn⟩, hb1⟩ := chk_some hb0
  obtain ⟨r, hr1, hj, hlink⟩ := hf
  have hci := vw_get hr1
  have ha := kd_hi hok hci
  obtain ⟨r', h1, cell, q1, q2, q3, q4⟩ := (hP.2.2.2 a (by omega) hn).1 (by omega)
  rw [hok] at h1 q2 q4
  cases hr1.symm.trans h1
  obtain ⟨hSl, hfc, kC, hkC, hkind⟩ := hK.1.1 ci r hr1
  obtain ⟨cf', kf, fi, f, hi, hsl⟩ := hSl j hj
  rw [rv_ref (show a ≠ 0 by omega)]
  refine W.getf hx hb hown (hK.2.1 _ hlink rfl args) hi (u_facts (args := #[]) hfc hkC (u_lays (hK.lay hr1) (fun _ h => h) hj) hi).1 q1 (by rw [q3]; exact fun h => by cases h) (v := fv g S a j) ?_ rfl rfl hdg (kk b hb1 H locs ls hP hS hl)
  rw [hsl]
  exact q4 j hj
theorem J.getI (C : CX X g cc own ret nL R0) {ci j idx a : Nat} (hf : FL own idx ci j) (hrf : rf ci j = false) (hdg : decode cc pc = .ok (.getfield idx, 3)) (kk : J X g Q cf (pc + 3) lv (.int (S.1 a j) :: st) S o) : J X g Q cf pc lv (rv g a :: st) S (chk (okc S ci a) o) := by
  by_cases h : kd a = ci
  · exact J.getV C hf hdg (by rw [fv_int h hrf]; exact kk)
  · exact J.ck (fun q => absurd q.1 h)
theorem J.getR (C : CX X g cc own ret nL R0) {ci j idx a : Nat} (hf : FL own idx ci j) (hrf : rf ci j = true) (hdg : decode cc pc = .ok (.getfield idx, 3)) (kk : J X g Q cf (pc + 3) lv (rv g (S.2.1 a j) :: st) S o) : J X g Q cf pc lv (rv g a :: st) S (chk (okc S ci a) o) := by
  by_cases h : kd a = ci
  · exact J.getV C hf hdg (by rw [fv_ref h hrf]; exact kk)
  · exact J.ck (fun q => absurd q.1 h)
theorem J.putV (C : CX X g cc own ret nL R0) {ci j idx a : Nat} {v : Value} {S' : St} (hf : FL own idx ci j) (hfin : (∀ r : vw_C, vwCl[ci]? = some r → (r.2.1 j).2.2.2 = false) ∨ ((∀ r : vw_C, vwCl[ci]? = some r → (r.2.1 j).2.2.2 = true ∧ (r.2.1 j).1 = own) ∧ X.2.2.2.2.2.2.2.2.1.name = "<init>")) (hnr : narrow (tyF ci j) v = v) (hfit : fits (tyF ci j) v = true) (hSn : S'.2.2 = S.2.2) (hoth : ∀ b, b ≠ a → fv g S' b = fv g S b) (hself : kd a = ci → ∀ i, fv g S' a i = updV (fv g S a) j v i) (hdg : decode cc pc = .ok (.putfield idx, 3)) (kk : J X g Q cf (pc + 3) lv st S' o) : J X g Q cf pc lv (v :: rv g a :: st) S (chk (okc S ci a) o) := by
  obtain ⟨p, l, e, R, s, m, args, below, meth, c⟩ := X
  obtain ⟨hx, hb, hml, hown, hr, hlk, hK, hR, hg⟩ := C
  intro b hb0 H locs ls hP hS hl
  obtain ⟨⟨hok, hn⟩, hb1⟩ := chk_some hb0
  obtain ⟨r, hr1, hj, hlink⟩ := hf
  have hci := vw_get hr1
  have ha := kd_hi hok hci
  obtain ⟨r', h1, cell, q1, q2, q3, q4⟩ := (hP.2.2.2 a (by omega) hn).1 (by omega)
  rw [hok] at h1 q2 q4
  cases hr1.symm.trans h1
  have hap := va_apart (own := own) (hK.lay hr1) (fun _ h => h) (tyF ci) (vw_ty hr1) (vw_nm hr1) hK.1 hr1
  obtain ⟨hSl, hfc, kC, hkC, hkind⟩ := hK.1.1 ci r hr1
  obtain ⟨cf', kf, fi, f, hi, hsl⟩ := hSl j hj
  have hst := (u_facts (args := #[]) hfc hkC (u_lays (hK.lay hr1) (fun _ h => h) hj) hi).1
  have hlay := hK.lay hr1 _ (u_in_lay hj)
  rw [rv_ref (show a ≠ 0 by omega)]
  have fin : ∀ H' : Heap, H'[ad g a]? = some (cell.setSlot f.slot v) → H'.size = H.size → (∀ q, q ≠ ad g a → H'[q]? = H[q]?) → W p l e R s m args below meth c H' (locs ++ [⟨ad g a, f.slot⟩]) (cf S.2.2).1 (cf S.2.2).2 (Q b) (F0 m (pc + 3) ls st) := by
    intro H' e1 e2 e3
    have hP' : HP g s S' H' := by
      refine hP.put ha hSn e2 e3 hoth ⟨fun _ => ⟨r, by rw [hok]; exact hr1, ?_⟩, fun q => by omega⟩
      rw [hok]
      refine t_OB.to (V := updV (fv g S a) j v) ⟨_, e1, q2, q3, ?_⟩ (fun i _ => (hself hok i).symm)
      rw [hsl]
      exact t_set q4 hap hj v
    have k1 := kk b hb1 H' (locs ++ [⟨ad g a, f.slot⟩]) ls hP' (hS.put e2 e3 (by show g.1 ≤ ad g a; rw [ad_hi ha]; omega)) hl
    rw [hSn] at k1
    exact k1
  rcases hfin with hfin | ⟨hfin, hin⟩
  · have hf2 := hfin r hr1
    unfold u_lay at hlay
    rw [if_neg (by rw [hf2]; decide)] at hlay
    have h6 := u_store hfc hkC hkind hlay hi (vw_ty hr1 j hj) hnr hfit
    exact W.putK hx hb (f := f) ⟨hown, hK.2.1 _ hlink rfl args, ⟨_, _, _, hi⟩, hst⟩ (by rw [q2]; exact h6) q1 q3 (by rw [hsl]; exact k2_hasslot (q4 j hj)) rfl rfl hdg fin
  · obtain ⟨hf2, hdecl⟩ := hfin r hr1
    unfold u_lay at hlay
    rw [if_pos hf2] at hlay
    have hcf : m.cls = cf' := by
      obtain ⟨_, _, c', _, _, _, -, -, hf', -, -, -, hown2, -⟩ := Cond.laysFinal_spec hlay
      have e1 : c' = cf' := by have := hi.symm.trans hf'; simp at this; exact this.1.symm
      rw [hdecl] at hown2
      rw [← e1]; exact Option.some.inj (hown.symm.trans hown2)
    have h6 := u_fits hfc hkC hkind (Or.inr hlay) hi (vw_ty hr1 j hj) hnr hfit
    exact W.putFinK hx hb hown (hK.2.1 _ hlink rfl args) hi hst hcf hin (by rw [q2]; exact h6) q1 q3 (by rw [hsl]; exact k2_hasslot (q4 j hj)) rfl rfl hdg fin
theorem J.putI (C : CX X g cc own ret nL R0) {ci j idx a : Nat} {x : Int32} (hf : FL own idx ci j) (hrf : rf ci j = false) (hfin : ∀ r : vw_C, vwCl[ci]? = some r → (r.2.1 j).2.2.2 = false) (hnr : narrow (tyF ci j) (.int x) = .int x) (hfit : fits (tyF ci j) (.int x) = true) (hdg : decode cc pc = .ok (.putfield idx, 3)) (kk : J X g Q cf (pc + 3) lv st (upI S a j x) o) : J X g Q cf pc lv (.int x :: rv g a :: st) S (chk (okc S ci a) o) :=
  J.putV (S' := upI S a j x) C hf (Or.inl hfin) hnr hfit rfl (fun _ h => fv_upI h) (fun h i => fv_upI_self (by rw [h]; exact hrf) i) hdg kk
theorem J.putR (C : CX X g cc own ret nL R0) {ci j idx a x : Nat} (hf : FL own idx ci j) (hrf : rf ci j = true) (hfin : (∀ r : vw_C, vwCl[ci]? = some r → (r.2.1 j).2.2.2 = true ∧ (r.2.1 j).1 = own)) (hin : X.2.2.2.2.2.2.2.2.1.name = "<init>") (hnr : narrow (tyF ci j) (rv g x) = rv g x) (hfit : fits (tyF ci j) (rv g x) = true) (hdg : decode cc pc = .ok (.putfield idx, 3)) (kk : J X g Q cf (pc + 3) lv st (upR S a j x) o) : J X g Q cf pc lv (rv g x :: rv g a :: st) S (chk (okc S ci a) o) :=
  J.putV (S' := upR S a j x) C hf (Or.inr ⟨hfin, hin⟩) hnr hfit rfl (fun _ h => fv_upR h) (fun h i => fv_upR_self (by rw [h]; exact hrf) i) hdg kk
end JR
end
section
section JR2
variable {β : Type} {X : CT} {g : GG} {Q : β → State → Prop} {cf : Nat → Nat × Nat} {pc : Nat} {lv : List (Nat × Value)} {st : List Value} {S : St} {o o1 o2 : Option β} {cc : ByteArray} {own : String} {ret : Option FieldType} {nL : Nat} {R0 : Room}
theorem ina_not {i : Int32} {n m : Nat} (h0 : 0 ≤ i) (h1 : i.toNatClampNeg < n) (h2 : n ≤ m) : ¬ (i < 0 ∨ m ≤ i.toNatClampNeg) := by
  rw [Int32.le_iff_toInt_le] at h0
  rintro (h | h)
  · rw [Int32.lt_iff_toInt_lt] at h
    omega
  · omega
theorem HP.arr {g : GG} {U : State} {H : Heap} (hP : HP g U S H) {c a : Nat} (hc : 9 < c) (h9 : c ≠ 99) (hk : kd a = c) (hn : a < S.2.2) : AK (tyA c) U (ad g a) (ln a) (fv g S a) H := by
  have h := (hP.2.2.2 a (by have := kd_pos hk h9; omega) hn).2 (by omega)
  rw [hk] at h
  exact h
theorem J.alen (C : CX X g cc own ret nL R0) {a : Nat} (c : Nat) (hc : 9 < c ∧ c ≠ 99) (hdg : decode cc pc = .ok (.arraylength, 1)) (kk : J X g Q cf (pc + 1) lv (.int (Int32.ofNat (ln a)) :: st) S o) : J X g Q cf pc lv (rv g a :: st) S (chk (okc S c a) o) := by
  obtain ⟨p, l, e, R, s, m, args, below, meth, c'⟩ := X
  obtain ⟨hx, hb, hml, hown, hr, hlk, hK, hR, hg⟩ := C
  intro b hb0 H locs ls hP hS hl
  obtain ⟨⟨hok, hn⟩, hb1⟩ := chk_some hb0
  obtain ⟨cell, h1, h2, h3, h4, h5, h6, h7⟩ := hP.arr hc.1 hc.2 hok hn
  rw [rv_ref (kd_pos hok hc.2)]
  exact W.alen hx hb h1 h2 h5 rfl rfl hdg (kk b hb1 H locs ls hP hS hl)
theorem J.iald (C : CX X g cc own ret nL R0) {a : Nat} {i : Int32} (hdg : decode cc pc = .ok (.iaload, 1)) (kk : J X g Q cf (pc + 1) lv (.int (S.1 a i.toNatClampNeg) :: st) S o) : J X g Q cf pc lv (.int i :: rv g a :: st) S (chk (ina S 10 a i) o) := by
  obtain ⟨p, l, e, R, s, m, args, below, meth, c'⟩ := X
  obtain ⟨hx, hb, hml, hown, hr, hlk, hK, hR, hg⟩ := C
  intro b hb0 H locs ls hP hS hl
  obtain ⟨⟨⟨hok, hn⟩, i0, i1⟩, hb1⟩ := chk_some hb0
  obtain ⟨cell, h1, h2, h3, h4, h5, h6, h7⟩ := hP.arr (by omega) (by omega) hok hn
  rw [rv_ref (kd_pos hok (by omega))]
  exact W.iald hx hb h1 h2 h3 (ina_not i0 i1 h4) (by rw [h6 _ i1, fv_int hok rfl]) rfl rfl hdg (kk b hb1 H locs ls hP hS hl)
theorem J.cald (C : CX X g cc own ret nL R0) {a : Nat} {i : Int32} (hdg : decode cc pc = .ok (.caload, 1)) (kk : J X g Q cf (pc + 1) lv (.int (S.1 a i.toNatClampNeg) :: st) S o) : J X g Q cf pc lv (.int i :: rv g a :: st) S (chk (ina S 11 a i) o) := by
  obtain ⟨p, l, e, R, s, m, args, below, meth, c'⟩ := X
  obtain ⟨hx, hb, hml, hown, hr, hlk, hK, hR, hg⟩ := C
  intro b hb0 H locs ls hP hS hl
  obtain ⟨⟨⟨hok, hn⟩, i0, i1⟩, hb1⟩ := chk_some hb0
  obtain ⟨cell, h1, h2, h3, h4, h5, h6, h7⟩ := hP.arr (by omega) (by omega) hok hn
  rw [rv_ref (kd_pos hok (by omega))]
  exact W.cald hx hb h1 h2 h3 (ina_not i0 i1 h4) (by rw [h6 _ i1, fv_int hok rfl]) rfl rfl hdg (kk b hb1 H locs ls hP hS hl)
theorem J.aald (C : CX X g cc own ret nL R0) {a : Nat} {i : Int32} (c : Nat) (hc : 9 < c ∧ c ≠ 99) (hrf : ∀ j, rf c j = true) (hty : (tyA c).isReference = true) (hdg : decode cc pc = .ok (.aaload, 1)) (kk : J X g Q cf (pc + 1) lv (rv g (S.2.1 a i.toNatClampNeg) :: st) S o) : J X g Q cf pc lv (.int i :: rv g a :: st) S (chk (ina S c a i) o) := by
  obtain ⟨p, l, e, R, s, m, args, below, meth, c'⟩ := X
  obtain ⟨hx, hb, hml, hown, hr, hlk, hK, hR, hg⟩ := C
  intro b hb0 H locs ls hP hS hl
  obtain ⟨⟨⟨hok, hn⟩, i0, i1⟩, hb1⟩ := chk_some hb0
  obtain ⟨cell, h1, h2, h3, h4, h5, h6, h7⟩ := hP.arr hc.1 hc.2 hok hn
  rw [rv_ref (kd_pos hok hc.2)]
  exact W.aald hx hb h1 h2 hty h3 (ina_not i0 i1 h4) (by rw [h6 _ i1, fv_ref hok (hrf _)]) rfl rfl hdg (kk b hb1 H locs ls hP hS hl)
/-- an array cell, one place written -/
theorem AK.set {ty : FieldType} {U : State} {a n i : Nat} {f f' : Nat → Value} {H H1 : Heap} {cell : Cell} {v : Value} (h0 : H[a]? = some cell) (h : AK ty U a n f H) (hi : i < n) (e1 : H1[a]? = some (cell.setSlot i v)) (hf : ∀ j, f' j = updV f i v j) : AK ty U a n f' H1 := by
  obtain ⟨cell', h1, h2, h3, h4, h5, h6, h7⟩ := h
  cases h0.symm.trans h1
  have hcls : (cell.setSlot i v).cls = cell.cls := rfl
  have hvm : (cell.setSlot i v).vm = cell.vm := rfl
  have hsz : (cell.setSlot i v).slots.size = cell.slots.size := by simp [Cell.setSlot]
  refine ⟨_, e1, ⟨fun k => by rw [hvm]; exact h2.1 k, by rw [hcls]; exact h2.2⟩, by rw [hvm]; exact h3, by rw [hsz]; exact h4, by rw [hsz]; exact h5, fun j hj => ?_, fun C hC => by rw [hcls]; exact h7 C hC⟩
  rw [hf]
  by_cases hji : j = i
  · subst hji
    rw [Cell.slots_setSlot_self _ (by omega)]
    simp [updV]
  · rw [slot_ne _ _ (Ne.symm hji), h6 j hj]
    simp [updV, hji]
theorem J.iast (C : CX X g cc own ret nL R0) {a : Nat} {i x : Int32} (hdg : decode cc pc = .ok (.iastore, 1)) (kk : J X g Q cf (pc + 1) lv st (upI S a i.toNatClampNeg x) o) : J X g Q cf pc lv (.int x :: .int i :: rv g a :: st) S (chk (inw S 10 a i) o) := by
  obtain ⟨p, l, e, R, s, m, args, below, meth, c'⟩ := X
  obtain ⟨hx, hb, hml, hown, hr, hlk, hK, hR, hg⟩ := C
  intro b hb0 H locs ls hP hS hl
  obtain ⟨⟨⟨⟨hok, hn⟩, i0, i1⟩, h4a⟩, hb1⟩ := chk_some hb0
  have hA := hP.arr (by omega) (by omega) hok hn
  obtain ⟨cell, h1, h2, h3, h4, h5, h6, h7⟩ := id hA
  rw [rv_ref (kd_pos hok (by omega))]
  refine W.iast hx hb h1 h2 h3 (ina_not i0 i1 h4) rfl rfl hdg (fun H' e1 e2 e3 => ?_)
  refine kk b hb1 H' _ ls (hP.put h4a rfl e2 e3 (fun _ h => fv_upI h) ⟨fun q => by omega, fun _ => ?_⟩) (hS.put e2 e3 (by show g.1 ≤ ad g a; rw [ad_hi h4a]; omega)) hl
  rw [hok]
  exact AK.set h1 hA i1 e1 (fun j => fv_upI_self (by rw [hok]; rfl) j)
theorem J.cast (C : CX X g cc own ret nL R0) {a : Nat} {i x : Int32} (hx0 : narrow .char (.int x) = .int x) (hdg : decode cc pc = .ok (.castore, 1)) (kk : J X g Q cf (pc + 1) lv st (upI S a i.toNatClampNeg x) o) : J X g Q cf pc lv (.int x :: .int i :: rv g a :: st) S (chk (inw S 11 a i) o) := by
  obtain ⟨p, l, e, R, s, m, args, below, meth, c'⟩ := X
  obtain ⟨hx, hb, hml, hown, hr, hlk, hK, hR, hg⟩ := C
  intro b hb0 H locs ls hP hS hl
  obtain ⟨⟨⟨⟨hok, hn⟩, i0, i1⟩, h4a⟩, hb1⟩ := chk_some hb0
  have hA := hP.arr (by omega) (by omega) hok hn
  obtain ⟨cell, h1, h2, h3, h4, h5, h6, h7⟩ := id hA
  rw [rv_ref (kd_pos hok (by omega))]
  refine W.cast hx hb h1 h2 h3 (ina_not i0 i1 h4) rfl rfl hdg (fun H' e1 e2 e3 => ?_)
  rw [hx0] at e1
  refine kk b hb1 H' _ ls (hP.put h4a rfl e2 e3 (fun _ h => fv_upI h) ⟨fun q => by omega, fun _ => ?_⟩) (hS.put e2 e3 (by show g.1 ≤ ad g a; rw [ad_hi h4a]; omega)) hl
  rw [hok]
  exact AK.set h1 hA i1 e1 (fun j => fv_upI_self (by rw [hok]; rfl) j)
theorem J.aast (C : CX X g cc own ret nL R0) {a v : Nat} {i : Int32} (c ce : Nat) {r : vw_C} (hc : 9 < c ∧ c ≠ 99) (hrf : ∀ j, rf c j = true) (hce : vwCl[ce]? = some r) (hty : tyA c = .object r.1) (hdg : decode cc pc = .ok (.aastore, 1)) (kk : J X g Q cf (pc + 1) lv st (upR S a i.toNatClampNeg v) o) : J X g Q cf pc lv (rv g v :: .int i :: rv g a :: st) S (chk (inw S c a i ∧ okc S ce v) o) := by
  obtain ⟨p, l, e, R, s, m, args, below, meth, c'⟩ := X
  obtain ⟨hx, hb, hml, hown, hr, hlk, hK, hR, hg⟩ := C
  intro b hb0 H locs ls hP hS hl
  obtain ⟨⟨⟨⟨⟨hok, hn⟩, i0, i1⟩, h4a⟩, hvk, hvn⟩, hb1⟩ := chk_some hb0
  have hA := hP.arr hc.1 hc.2 hok hn
  obtain ⟨cell, h1, h2, h3, h4, h5, h6, h7⟩ := id hA
  obtain ⟨kA, comp, k1, k2, k3⟩ := h7 r.1 hty
  have hce9 := vw_get hce
  have hv4 := kd_hi hvk hce9
  obtain ⟨r', e0, cellV, g1, g2, g3, g4⟩ := (hP.2.2.2 v (by omega) hvn).1 (by omega)
  rw [hvk] at e0 g2
  cases hce.symm.trans e0
  have hcls := (hK.1.1 ce r hce).2
  have hcomp : comp = g.2.2.1 ce := Option.some.inj (k3.symm.trans hcls.1)
  subst hcomp
  obtain ⟨kC, hkC, -⟩ := id hcls.2
  rw [rv_ref (show a ≠ 0 by omega), rv_ref (show v ≠ 0 by omega)]
  have hin := ina_not i0 i1 h4
  refine W.aast hx hb h1 h2.1 h3 k1 k2 rfl hkC ⟨fun q => hin (Or.inl q), by omega⟩ g1 (fun q h => by rw [g3] at h; cases h) (by rw [g2]; exact hkC) (by rw [g2]; exact va_assign hcls) rfl rfl hdg (fun H' e1 e2 e3 => ?_)
  refine kk b hb1 H' _ ls (hP.put h4a rfl e2 e3 (fun _ h => fv_upR h) ⟨fun q => by omega, fun _ => ?_⟩) (hS.put e2 e3 (by show g.1 ≤ ad g a; rw [ad_hi h4a]; omega)) hl
  rw [hok]
  exact AK.set h1 hA i1 e1 (fun j => by rw [← rv_ref (g := g) (show v ≠ 0 by omega)]; exact fv_upR_self (by rw [hok]; exact hrf _) j)
theorem J.gets (C : CX X g cc own ret nL R0) {idx : Nat} (k : Nat) (hk : 1 ≤ k ∧ k < 4) (hw : Cond.fieldLink own idx RX7 (snm k) "[I" ∈ lw_tbl) (hdg : decode cc pc = .ok (.getstatic idx, 3)) (kk : J X g Q cf (pc + 3) lv (rv g k :: st) S o) : J X g Q cf pc lv st S o := by
  obtain ⟨p, l, e, R, s, m, args, below, meth, c'⟩ := X
  obtain ⟨hx, hb, hml, hown, hr, hlk, hK, hR, hg⟩ := C
  intro b hb0 H locs ls hP hS hl
  have k1 := kk b hb0 H locs ls hP hS hl
  rw [rv_ref (show k ≠ 0 by omega), ad_lo hk.2] at k1
  exact va_gets hx hb (hK.2.2.2.1 k hk.1 hk.2) hS hown (hK.2.1 _ hw rfl args) (fun _ h => h) hdg k1
theorem J.getsN (C : CX X g cc own ret nL R0) {idx : Nat} {host : String} (k : Nat) (hk : 1 ≤ k ∧ k < 4) (hw : Cond.fieldLinkNest own idx RX7 (snm k) "[I" host ∈ lw_tbl) (hdg : decode cc pc = .ok (.getstatic idx, 3)) (kk : J X g Q cf (pc + 3) lv (rv g k :: st) S o) : J X g Q cf pc lv st S o := by
  obtain ⟨p, l, e, R, s, m, args, below, meth, c'⟩ := X
  obtain ⟨hx, hb, hml, hown, hr, hlk, hK, hR, hg⟩ := C
  intro b hb0 H locs ls hP hS hl
  have k1 := kk b hb0 H locs ls hP hS hl
  rw [rv_ref (show k ≠ 0 by omega), ad_lo hk.2] at k1
  exact va_getsN hx hb (hK.2.2.2.1 k hk.1 hk.2) hS hown (va_Nw.use rfl (hK.2.2.1 _ hw rfl)) (fun _ h => h) hdg k1
/-! loops -/
def wl1 {α β : Type} (F : (α → Option β) → α → Option β) : Nat → α → Option β
  | 0, _ => none
  | n + 1, a => F (wl1 F n) a
def wl2 {α α2 β : Type} (F : (α → α2 → Option β) → α → α2 → Option β) : Nat → α → α2 → Option β
  | 0, _, _ => none
  | n + 1, a, b => F (wl2 F n) a b
def wl3 {α α2 α3 β : Type} (F : (α → α2 → α3 → Option β) → α → α2 → α3 → Option β) : Nat → α → α2 → α3 → Option β
  | 0, _, _, _ => none
  | n + 1, a, b, c => F (wl3 F n) a b c
def wl4 {α α2 α3 α4 β : Type} (F : (α → α2 → α3 → α4 → Option β) → α → α2 → α3 → α4 → Option β) : Nat → α → α2 → α3 → α4 → Option β
  | 0, _, _, _, _ => none
  | n + 1, a, b, c, d => F (wl4 F n) a b c d
theorem J.loop1 {α : Type} {F : (α → Option β) → α → Option β} {lvf : α → List (Nat × Value)} {Sf : α → St} (h : ∀ k : α → Option β, (∀ a, J X g Q cf pc (lvf a) st (Sf a) (k a)) → ∀ a, J X g Q cf pc (lvf a) st (Sf a) (F k a)) : ∀ n a, J X g Q cf pc (lvf a) st (Sf a) (wl1 F n a)
  | 0, _ => J.none
  | n + 1, a => h _ (J.loop1 h n) a
theorem J.loop2 {α α2 : Type} {F : (α → α2 → Option β) → α → α2 → Option β} {lvf : α → α2 → List (Nat × Value)} {Sf : α → α2 → St} (h : ∀ k : α → α2 → Option β, (∀ a b, J X g Q cf pc (lvf a b) st (Sf a b) (k a b)) → ∀ a b, J X g Q cf pc (lvf a b) st (Sf a b) (F k a b)) : ∀ n a b, J X g Q cf pc (lvf a b) st (Sf a b) (wl2 F n a b)
  | 0, _, _ => J.none
  | n + 1, a, b => h _ (J.loop2 h n) a b
theorem J.loop3 {α α2 α3 : Type} {F : (α → α2 → α3 → Option β) → α → α2 → α3 → Option β} {lvf : α → α2 → α3 → List (Nat × Value)} {Sf : α → α2 → α3 → St} (h : ∀ k : α → α2 → α3 → Option β, (∀ a b c, J X g Q cf pc (lvf a b c) st (Sf a b c) (k a b c)) → ∀ a b c, J X g Q cf pc (lvf a b c) st (Sf a b c) (F k a b c)) : ∀ n a b c, J X g Q cf pc (lvf a b c) st (Sf a b c) (wl3 F n a b c)
  | 0, _, _, _ => J.none
  | n + 1, a, b, c => h _ (J.loop3 h n) a b c
theorem J.loop4 {α α2 α3 α4 : Type} {F : (α → α2 → α3 → α4 → Option β) → α → α2 → α3 → α4 → Option β} {lvf : α → α2 → α3 → α4 → List (Nat × Value)} {Sf : α → α2 → α3 → α4 → St} (h : ∀ k : α → α2 → α3 → α4 → Option β, (∀ a b c d, J X g Q cf pc (lvf a b c d) st (Sf a b c d) (k a b c d)) → ∀ a b c d, J X g Q cf pc (lvf a b c d) st (Sf a b c d) (F k a b c d)) : ∀ n a b c d, J X g Q cf pc (lvf a b c d) st (Sf a b c d) (wl4 F n a b c d)
  | 0, _, _, _, _ => J.none
  | n + 1, a, b, c, d => h _ (J.loop4 h n) a b c d
def FU : Nat := 1000000
/-! a method's end -/
def Qz {γ : Type} (g : GG) (an : γ → Option Value) (ps : γ → St) (b : γ) : Array Value → State → Outcome → State → Prop := fun _ st oc t => oc = .returned (an b) ∧ HP g t (ps b) t.heap ∧ va_F (Ag g) st t
def Qm {γ : Type} (X : CT) (g : GG) (an : γ → Option Value) (ps : γ → St) (b : γ) : State → Prop :=
  match X with
  | (_, _, _, R, s, _, args, below, _, _) => MQ below (Qz g an ps b) args s R.cells R.slots (Ag g)
/-- a contract -/
def Ct {γ : Type} (l : Launch) (y : MethodName) (cc : ByteArray) (nL : Nat) (ret : Option FieldType) (rm : Room) (g : GG) (an : γ → Option Value) (ps : γ → St) (as : List Value) (S : St) (o : Option γ) : Prop := ∀ b, o = some b → Met l y [.code y cc nL ret] rm (va_Pc as (fun U => HP g U S U.heap ∧ KU g U)) (Qz g an ps b) rm.cells rm.slots (Ag g)
theorem J.iret {an : β → Option Value} {ps : β → St} {b : β} {v : Int32} (C : CX X g cc own (some .int) nL R0) (hv : an b = some (.int v)) (hs : ps b = S) (hc : (cf S.2.2).1 ≤ R0.cells ∧ (cf S.2.2).2 ≤ R0.slots) (hdg : decode cc pc = .ok (.ireturn, 1)) : J X g (Qm X g an ps) cf pc lv [.int v] S (some b) := by
  obtain ⟨p, l, e, R, s, m, args, below, meth, c'⟩ := X
  obtain ⟨hx, hb, hml, hown, hr, hlk, hK, hR, hg⟩ := C
  intro b' hb0 H locs ls hP hS hl
  cases hb0
  subst hR
  refine W.widen hc.1 hc.2 ?_
  exact W.iret hx hb hr (fun t ht hW => ⟨by rw [hv], by rw [hs, ht]; exact hP.moved hW.alike, hS.F ht⟩) hS.2.2 hdg hlk
theorem J.zret {an : β → Option Value} {ps : β → St} {b : β} {v : Int32} {ty : FieldType} (C : CX X g cc own (some ty) nL R0) (hnr : narrow ty (.int v) = .int v) (hv : an b = some (.int v)) (hs : ps b = S) (hc : (cf S.2.2).1 ≤ R0.cells ∧ (cf S.2.2).2 ≤ R0.slots) (hdg : decode cc pc = .ok (.ireturn, 1)) : J X g (Qm X g an ps) cf pc lv [.int v] S (some b) := by
  obtain ⟨p, l, e, R, s, m, args, below, meth, c'⟩ := X
  obtain ⟨hx, hb, hml, hown, hr, hlk, hK, hR, hg⟩ := C
  intro b' hb0 H locs ls hP hS hl
  cases hb0
  subst hR
  refine W.widen hc.1 hc.2 ?_
  exact W.zret hx hb hr hnr (fun t ht hW => ⟨by rw [hv], by rw [hs, ht]; exact hP.moved hW.alike, hS.F ht⟩) hS.2.2 hdg hlk
theorem J.vret {an : β → Option Value} {ps : β → St} {b : β} (C : CX X g cc own Option.none nL R0) (hv : an b = Option.none) (hs : ps b = S) (hc : (cf S.2.2).1 ≤ R0.cells ∧ (cf S.2.2).2 ≤ R0.slots) (hdg : decode cc pc = .ok (.return_, 1)) : J X g (Qm X g an ps) cf pc lv [] S (some b) := by
  obtain ⟨p, l, e, R, s, m, args, below, meth, c'⟩ := X
  obtain ⟨hx, hb, hml, hown, hr, hlk, hK, hR, hg⟩ := C
  intro b' hb0 H locs ls hP hS hl
  cases hb0
  subst hR
  refine W.widen hc.1 hc.2 ?_
  exact W.vret hx hb hr (fun t ht hW => ⟨by rw [hv], by rw [hs, ht]; exact hP.moved hW.alike, hS.F ht⟩) hS.2.2 hdg hlk
theorem J.aret {an : β → Option Value} {ps : β → St} {b : β} {v : Nat} {nm : String} (C : CX X g cc own (some (.object nm)) nL R0) (hv : an b = some (rv g v)) (hs : ps b = S) (hc : (cf S.2.2).1 ≤ R0.cells ∧ (cf S.2.2).2 ≤ R0.slots) (hdg : decode cc pc = .ok (.areturn, 1)) : J X g (Qm X g an ps) cf pc lv [rv g v] S (some b) := by
  obtain ⟨p, l, e, R, s, m, args, below, meth, c'⟩ := X
  obtain ⟨hx, hb, hml, hown, hr, hlk, hK, hR, hg⟩ := C
  intro b' hb0 H locs ls hP hS hl
  cases hb0
  subst hR
  refine W.widen hc.1 hc.2 ?_
  have hvv : rv g v = .null ∨ ∃ a, rv g v = .ref a := by
    unfold rv
    split
    · exact Or.inl rfl
    · exact Or.inr ⟨_, rfl⟩
  exact W.aret hx hb hr (Or.inl ⟨_, rfl⟩) hvv (fun t ht hW => ⟨by rw [hv], by rw [hs, ht]; exact hP.moved hW.alike, hS.F ht⟩) hS.2.2 hdg hlk
/-! a method's start -/
theorem Ct.of {γ : Type} {l : Launch} {y : MethodName} {cc : ByteArray} {nL : Nat} {ret : Option FieldType} {rm : Room} {g : GG} {an : γ → Option Value} {ps : γ → St} {as : List Value} {S : St} {o : Option γ} {lv : List (Nat × Value)} {cf : Nat → Nat × Nat} (hy : plainName y.cls = true) (hlen : (lg_sl as).length ≤ nL) (hlv : lv_args 0 as = lv) (hcat : ∀ q ∈ lv, q.2.category = 1) (hcf : cf S.2.2 = (0, 0))
    (body : ∀ X : CT, X.2.1 = l → X.2.2.2.2.2.2.2.2.1.name = y.name → CX X g cc y.cls ret nL rm → J X g (Qm X g an ps) cf 0 lv [] S o) : Ct l y cc nL ret rm g an ps as S o := by
  intro b hb
  refine Met.ofW (cc := cc) (maxL := nL) (ret := ret) hy rfl ?_
  intro p e s m args below meth c s₁ B hml hv
  obtain ⟨rfl, hP, hK⟩ := hv
  have C : CX (p, l, e, rm, s, m, as.toArray, below, meth, c) g cc y.cls ret nL rm := ⟨B.exec, B.bytes, hml, findClass_of_methodNamed B.named, B.returns, B.notSynchronized, hK, rfl, hP.free⟩
  have k := body _ rfl (name_of_methodNamed B.named B.method).1 C b hb s.heap [] _ hP va_S.rf ⟨by rw [hml, ← hlv]; exact lv_entry as (n := nL) hlen, hcat⟩
  rw [hcf] at k
  rw [lg_entry_eq]
  exact k
end JR2
end
section
section JR3
variable {β : Type} {X : CT} {g : GG} {Q : β → State → Prop} {cf : Nat → Nat × Nat} {pc : Nat} {lv : List (Nat × Value)} {st : List Value} {S : St} {o o1 o2 : Option β} {cc : ByteArray} {own : String} {ret : Option FieldType} {nL : Nat} {R0 : Room}
def cats (st : List Value) : Prop := ∀ v ∈ st, v.category = 1
theorem cat_n : cats [] := fun _ h => by cases h
theorem cat_i {x : Int32} {st : List Value} (h : cats st) : cats (.int x :: st) := fun v hv => by
  rcases List.mem_cons.mp hv with e | e
  · rw [e]; rfl
  · exact h v e
theorem cat_r {g : GG} {x : Nat} {st : List Value} (h : cats st) : cats (rv g x :: st) := fun v hv => by
  rcases List.mem_cons.mp hv with e | e
  · rw [e]; exact rv_cat g x
  · exact h v e
theorem cats_sum : ∀ {st : List Value}, cats st → (st.map fun v => v.category).sum = st.length
  | [], _ => rfl
  | v :: t, h => by
    have h1 := h v List.mem_cons_self
    have h2 := cats_sum (st := t) (fun w hw => h w (List.mem_cons_of_mem _ hw))
    simp only [List.map_cons, List.sum_cons, List.length_cons, h1, h2]
    omega
def lcats (lv : List (Nat × Value)) : Prop := ∀ q ∈ lv, q.2.category = 1
theorem lcat_n : lcats [] := fun _ h => by cases h
theorem lcat_i {i : Nat} {x : Int32} {lv : List (Nat × Value)} (h : lcats lv) : lcats ((i, .int x) :: lv) := fun v hv => by
  rcases List.mem_cons.mp hv with e | e
  · rw [e]; rfl
  · exact h v e
theorem lcat_r {g : GG} {i x : Nat} {lv : List (Nat × Value)} (h : lcats lv) : lcats ((i, rv g x) :: lv) := fun v hv => by
  rcases List.mem_cons.mp hv with e | e
  · rw [e]; exact rv_cat g x
  · exact h v e
theorem J.run {γ : Type} {an' : γ → Option Value} {ps' : γ → St} {f : Option γ} {k : γ → Option β} {stk rest : List Value} {rm : Room} {aa : Array Value} (hcs : ∀ b, f = some b → (cf S.2.2).1 + rm.cells ≤ (cf (ps' b).2.2).1 ∧ (cf S.2.2).2 + rm.slots ≤ (cf (ps' b).2.2).2)
    (hrun : match X with
      | (p, l, e, R, s, m, args, below, meth, c) => ∀ b, f = some b → ∀ (H : Heap) (locs : List Loc) (ls : Array Slot), HP g s S H → va_S (Ag g) s.heap H locs → lh ls c.maxLocals lv → va_Run p l e R s m args below meth c H locs (cf S.2.2).1 (cf S.2.2).2 rm.cells rm.slots (F0 m pc ls stk) rest (Qz g an' ps' b aa) (Ag g))
    (kk : ∀ b, f = some b → J X g Q cf (pc + 3) lv ((an' b).toList ++ rest) (ps' b) (k b)) : J X g Q cf pc lv stk S (bnd f k) := by
  obtain ⟨p, l, e, R, s, m, args, below, meth, c⟩ := X
  intro b hb0 H locs ls hP hS hl
  obtain ⟨b1, hb1, hb2⟩ := bnd_some hb0
  have hr := hrun b1 hb1 H locs ls hP hS hl
  intro T hT Xs
  obtain ⟨v, st₀, t, T', L, h0, X', hL, e1, e2, ⟨hv, hp, hz, hk⟩, stp⟩ := hr T hT Xs
  have hv2 : v = an' b1 := Outcome.returned.inj hv
  subst hv2
  rw [h0] at hz hk
  have hW : t.vm.Alike s.vm := by rw [← e2]; exact X'.warmed.alike.symm
  have hP1 : HP g s (ps' b1) T'.heap := by rw [e1]; exact hp.moved hW
  obtain ⟨t2, a1, b2⟩ := W.widen (hcs b1 hb1).1 (hcs b1 hb1).2 (kk b1 hb1 b hb2 T'.heap (locs ++ L) ls hP1 ⟨Nat.le_trans hS.1 (by rw [e1]; exact hz), fun q q1 q2 => by rw [e1, hk q (Nat.lt_of_lt_of_le q1 hS.1) q2]; exact hS.2.1 q q1 q2, fun q hq => by
      rcases List.mem_append.mp hq with h | h
      · exact hS.2.2 q h
      · exact hL q h⟩ hl) T' rfl X'
  exact ⟨t2, stp t2 a1, b2⟩
/-- what the tables say of a method -/
def MS (y : MethodName) (cc : ByteArray) (nL : Nat) (ret : Option FieldType) (n : Nat) : Prop := (Cond.code y cc nL ret ∈ lw_tbl ∧ Cond.initialized y.cls ∈ lw_tbl) ∧ y.cls ≠ "java/lang/invoke/MethodHandle" ∧ y.cls ≠ "java/lang/invoke/VarHandle" ∧ (parseMethodDescriptor y.desc).map (fun d => d.parameters.length) = some n
theorem pre_blind {g : GG} {S : St} {as : List Value} : FrameBlind (va_Pc as (fun U => HP g U S U.heap ∧ KU g U)) := fun a U gf mk q =>
  ⟨q.1, HP.moved (u := U) (U := U.calling gf mk a) (Vm.Alike.refl U.vm) q.2.1, KU.moved (s := U) (U := U.calling gf mk a) (State.WarmedH.refl U) (fun _ _ _ => rfl) q.2.2⟩
theorem pre_at {g : GG} {s : State} {S : St} {H : Heap} {locs : List Loc} (hK : KU g s) (hP : HP g s S H) (hS : va_S (Ag g) s.heap H locs) {as : List Value} (U : State) (hU : U.heap = H) (hW : s.WarmedH U.vm) : va_Pc as (fun U => HP g U S U.heap ∧ KU g U) as.toArray U :=
  ⟨rfl, by rw [hU]; exact hP.moved hW.alike, hK.moved hW (fun a h1 h2 => by rw [hU]; exact hS.2.1 a h1 h2)⟩
theorem call_b {s : State} {args : Array Value} {g : GG} (hK : KU g s) {R rm : Room} {own : String} {idx n nL' : Nat} {y : MethodName} {cc' : ByteArray} {ret' : Option FieldType} (hM : MS y cc' nL' ret' n) (hl : (Cond.methodLink own idx y).before args s = true) (hR : rm.frames + 1 ≤ R.frames ∧ 8 + (nL' + 11) + rm.locals ≤ R.locals) : CallB R s args own idx y cc' nL' ret' [.code y cc' nL' ret'] rm rm.cells rm.slots n := by
  obtain ⟨⟨h1, h2⟩, h3, h4, h5⟩ := hM
  have hcode := hK.2.1 _ h1 rfl args
  refine ⟨rfl, rfl, hR.1, hR.2, fun w hw a' U hW => ?_, List.mem_cons_self, hcode, hK.2.1 _ h2 rfl args, ⟨h3, h4⟩, fun sig h => ?_, hl⟩
  · rcases List.mem_cons.mp hw with e | e
    · rw [e]; exact word_at hW (Or.inl rfl) hcode
    · cases e
  · rw [h] at h5
    exact (Option.some.inj h5).symm
theorem call_n {s : State} {args : Array Value} {g : GG} (hK : KU g s) {R rm : Room} {own host : String} {idx n nL' : Nat} {y : MethodName} {cc' : ByteArray} {ret' : Option FieldType} (hM : MS y cc' nL' ret' n) (hl : (Cond.methodLinkNest own idx y host).before args s = true) (hR : rm.frames + 1 ≤ R.frames ∧ 8 + (nL' + 11) + rm.locals ≤ R.locals) : va_CN R s args own idx y host cc' nL' ret' [.code y cc' nL' ret'] rm rm.cells rm.slots n := by
  obtain ⟨⟨h1, h2⟩, h3, h4, h5⟩ := hM
  have hcode := hK.2.1 _ h1 rfl args
  refine ⟨⟨rfl, rfl, hR.1, hR.2, fun w hw a' U hW => ?_, List.mem_cons_self⟩, hcode, hK.2.1 _ h2 rfl args, ⟨h3, h4⟩, fun sig h => ?_, hl⟩
  · rcases List.mem_cons.mp hw with e | e
    · rw [e]; exact word_at hW (Or.inl rfl) hcode
    · cases e
  · rw [h] at h5
    exact (Option.some.inj h5).symm
variable {γ : Type} {an' : γ → Option Value} {ps' : γ → St} {f : Option γ} {k : γ → Option β} {stk rest : List Value} {rm : Room} {As : List Value} {y : MethodName} {cc' : ByteArray} {nL' idx n : Nat} {ret' : Option FieldType}
theorem J.callS (C : CX X g cc own ret nL R0) (hM : MS y cc' nL' ret' n) (hstat : Cond.static y ∈ lw_tbl) (hlk : Cond.methodLink own idx y ∈ lw_tbl) (hC : ∀ l, Ct l y cc' nL' ret' rm g an' ps' As S f) (hn : As.length = n) (hstk : stk = As.reverse ++ rest) (hcat : cats rest) (hlen : rest.length ≤ 8) (hR : rm.frames + 1 ≤ R0.frames ∧ 8 + (nL' + 11) + rm.locals ≤ R0.locals) (hroom : (cf S.2.2).1 + rm.cells ≤ R0.cells ∧ (cf S.2.2).2 + rm.slots ≤ R0.slots) (hcs : ∀ b, f = some b → (cf S.2.2).1 + rm.cells ≤ (cf (ps' b).2.2).1 ∧ (cf S.2.2).2 + rm.slots ≤ (cf (ps' b).2.2).2) (hdg : decode cc pc = .ok (.invokestatic idx, 3))
    (kk : ∀ b, J X g Q cf (pc + 3) lv ((an' b).toList ++ rest) (ps' b) (k b)) : J X g Q cf pc lv stk S (bnd f k) := by
  refine J.run (rm := rm) (aa := As.toArray) (rest := rest) hcs ?_ (fun b _ => kk b)
  obtain ⟨p, l, e, R, s, m, args, below, meth, c⟩ := X
  obtain ⟨hx, hb, hml, hown, hr, hlk', hK, hRe, hg⟩ := C
  subst hRe
  intro b hb0 H locs ls hP hS hl
  exact va_runS (Ts := []) (As := As) (rest := rest) ⟨hx, hb, hml, hown, fun w h => by cases h⟩ (hC l b hb0) ⟨call_b hK hM (hK.2.1 _ hlk rfl args) hR, hK.2.1 _ hstat rfl args⟩ ⟨pre_blind, fun U hU hW => pre_at hK hP hS U hU hW⟩ rfl hn (hl.1.1.trans hml) hstk (lv_room (by rw [cats_sum hcat]; exact hlen)) hdg hroom
theorem J.callSN {host : String} (C : CX X g cc own ret nL R0) (hM : MS y cc' nL' ret' n) (hstat : Cond.static y ∈ lw_tbl) (hlk : Cond.methodLinkNest own idx y host ∈ lw_tbl) (hC : ∀ l, Ct l y cc' nL' ret' rm g an' ps' As S f) (hn : As.length = n) (hstk : stk = As.reverse ++ rest) (hcat : cats rest) (hlen : rest.length ≤ 8) (hR : rm.frames + 1 ≤ R0.frames ∧ 8 + (nL' + 11) + rm.locals ≤ R0.locals) (hroom : (cf S.2.2).1 + rm.cells ≤ R0.cells ∧ (cf S.2.2).2 + rm.slots ≤ R0.slots) (hcs : ∀ b, f = some b → (cf S.2.2).1 + rm.cells ≤ (cf (ps' b).2.2).1 ∧ (cf S.2.2).2 + rm.slots ≤ (cf (ps' b).2.2).2) (hdg : decode cc pc = .ok (.invokestatic idx, 3))
    (kk : ∀ b, J X g Q cf (pc + 3) lv ((an' b).toList ++ rest) (ps' b) (k b)) : J X g Q cf pc lv stk S (bnd f k) := by
  refine J.run (rm := rm) (aa := As.toArray) (rest := rest) hcs ?_ (fun b _ => kk b)
  obtain ⟨p, l, e, R, s, m, args, below, meth, c⟩ := X
  obtain ⟨hx, hb, hml, hown, hr, hlk', hK, hRe, hg⟩ := C
  subst hRe
  intro b hb0 H locs ls hP hS hl
  exact va_runSN (Ts := []) (As := As) (rest := rest) ⟨hx, hb, hml, hown, fun w h => by cases h⟩ (hC l b hb0) ⟨call_n hK hM (va_Nw.use rfl (hK.2.2.1 _ hlk rfl)) hR, hK.2.1 _ hstat rfl args, trivial⟩ ⟨pre_blind, fun U hU hW => pre_at hK hP hS U hU hW⟩ rfl hn (hl.1.1.trans hml) hstk (lv_room (by rw [cats_sum hcat]; exact hlen)) hdg hroom
theorem HP.recv {s : State} {H : Heap} (hK : KU g s) (hP : HP g s S H) {a ci : Nat} {r : vw_C} (hr : vwCl[ci]? = some r) (hk : kd a = ci) (hn : a < S.2.2) : ∃ cell : Cell, H[ad g a]? = some cell ∧ cell.vm.isStatics = false ∧ s.vm.findClass r.1 = some cell.cls := by
  have hci := vw_get hr
  have ha := kd_hi hk hci
  obtain ⟨r', h1, cell, q1, q2, q3, q4⟩ := (hP.2.2.2 a (by omega) hn).1 (by omega)
  rw [hk] at h1 q2
  cases hr.symm.trans h1
  exact ⟨cell, q1, by rw [q3]; rfl, by rw [q2]; exact (hK.1.1 ci r hr).2.1⟩
theorem J.callV {a ci : Nat} {r : vw_C} (C : CX X g cc own ret nL R0) (hr : vwCl[ci]? = some r) (hyc : y.cls = r.1) (hM : MS y cc' nL' ret' n) (hin : Cond.instanceMethod y ∈ lw_tbl) (hsel : Cond.selects r.1 y y ∈ lw_tbl) (hlk : Cond.methodLink own idx y ∈ lw_tbl) (hC : ∀ l, Ct l y cc' nL' ret' rm g an' ps' (rv g a :: As) S f) (hn : As.length = n) (hstk : stk = As.reverse ++ rv g a :: rest) (hcat : cats rest) (hlen : rest.length ≤ 8) (hR : rm.frames + 1 ≤ R0.frames ∧ 8 + (nL' + 11) + rm.locals ≤ R0.locals) (hroom : (cf S.2.2).1 + rm.cells ≤ R0.cells ∧ (cf S.2.2).2 + rm.slots ≤ R0.slots) (hcs : ∀ b, f = some b → (cf S.2.2).1 + rm.cells ≤ (cf (ps' b).2.2).1 ∧ (cf S.2.2).2 + rm.slots ≤ (cf (ps' b).2.2).2) (hdg : decode cc pc = .ok (.invokevirtual idx, 3))
    (kk : ∀ b, J X g Q cf (pc + 3) lv ((an' b).toList ++ rest) (ps' b) (k b)) : J X g Q cf pc lv stk S (chk (okc S ci a) (bnd f k)) := by
  refine J.ck (fun hok => ?_)
  refine J.run (rm := rm) (aa := (rv g a :: As).toArray) (rest := rest) hcs ?_ (fun b _ => kk b)
  obtain ⟨p, l, e, R, s, m, args, below, meth, c⟩ := X
  obtain ⟨hx, hb, hml, hown, hr', hlk', hK, hRe, hg⟩ := C
  subst hRe
  intro b hb0 H locs ls hP hS hl
  have hC' := hC l b hb0
  have ha0 : a ≠ 0 := kd_pos hok.1 (by have := vw_get hr; omega)
  rw [rv_ref ha0] at hC' hstk ⊢
  have hM' : MS y cc' nL' ret' n := hM
  exact va_runV (Ts := []) (C := r.1) (As := As) (rest := rest) ⟨hx, hb, hml, hown, fun w h => by cases h⟩ hC' ⟨call_b hK hM' (hK.2.1 _ hlk rfl args) hR, hK.2.1 _ hin rfl args, hK.2.1 _ hsel rfl args⟩ ⟨pre_blind, hP.recv hK hr hok.1 hok.2, fun U hU hW => pre_at hK hP hS U hU hW⟩ rfl hn (hl.1.1.trans hml) hstk (lv_room (by rw [cats_sum hcat]; exact hlen)) hdg hroom
theorem J.callI {a ci : Nat} {r : vw_C} (C : CX X g cc own ret nL R0) (hr : vwCl[ci]? = some r) (hM : MS y cc' nL' Option.none n) (hin : Cond.instanceMethod y ∈ lw_tbl) (hy1 : y.name = "<init>") (hlk : Cond.methodLink own idx y ∈ lw_tbl) (hC : ∀ l, Ct l y cc' nL' Option.none rm g an' ps' (rv g a :: As) S f) (hn : As.length = n) (hstk : stk = As.reverse ++ rv g a :: rest) (hcat : cats rest) (hlen : rest.length ≤ 8) (hR : rm.frames + 1 ≤ R0.frames ∧ 8 + (nL' + 11) + rm.locals ≤ R0.locals) (hroom : (cf S.2.2).1 + rm.cells ≤ R0.cells ∧ (cf S.2.2).2 + rm.slots ≤ R0.slots) (hcs : ∀ b, f = some b → (cf S.2.2).1 + rm.cells ≤ (cf (ps' b).2.2).1 ∧ (cf S.2.2).2 + rm.slots ≤ (cf (ps' b).2.2).2) (hdg : decode cc pc = .ok (.invokespecial idx, 3))
    (kk : ∀ b, J X g Q cf (pc + 3) lv ((an' b).toList ++ rest) (ps' b) (k b)) : J X g Q cf pc lv stk S (chk (okc S ci a) (bnd f k)) := by
  refine J.ck (fun hok => ?_)
  refine J.run (rm := rm) (aa := (rv g a :: As).toArray) (rest := rest) hcs ?_ (fun b _ => kk b)
  obtain ⟨p, l, e, R, s, m, args, below, meth, c⟩ := X
  obtain ⟨hx, hb, hml, hown, hr', hlk', hK, hRe, hg⟩ := C
  subst hRe
  intro b hb0 H locs ls hP hS hl
  have hC' := hC l b hb0
  have ha0 : a ≠ 0 := kd_pos hok.1 (by have := vw_get hr; omega)
  rw [rv_ref ha0] at hC' hstk ⊢
  exact va_runI (Ts := []) (As := As) (rest := rest) ⟨hx, hb, hml, hown, fun w h => by cases h⟩ hC' ⟨call_b hK hM (hK.2.1 _ hlk rfl args) hR, hy1, hK.2.1 _ hin rfl args⟩ ⟨pre_blind, fun U hU hW => pre_at hK hP hS U hU hW⟩ rfl hn (hl.1.1.trans hml) hstk (lv_room (by rw [cats_sum hcat]; exact hlen)) hdg hroom
theorem J.callIN {host : String} {a ci : Nat} {r : vw_C} (C : CX X g cc own ret nL R0) (hr : vwCl[ci]? = some r) (hM : MS y cc' nL' Option.none n) (hin : Cond.instanceMethod y ∈ lw_tbl) (hy1 : y.name = "<init>") (hlk : Cond.methodLinkNest own idx y host ∈ lw_tbl) (hC : ∀ l, Ct l y cc' nL' Option.none rm g an' ps' (rv g a :: As) S f) (hn : As.length = n) (hstk : stk = As.reverse ++ rv g a :: rest) (hcat : cats rest) (hlen : rest.length ≤ 8) (hR : rm.frames + 1 ≤ R0.frames ∧ 8 + (nL' + 11) + rm.locals ≤ R0.locals) (hroom : (cf S.2.2).1 + rm.cells ≤ R0.cells ∧ (cf S.2.2).2 + rm.slots ≤ R0.slots) (hcs : ∀ b, f = some b → (cf S.2.2).1 + rm.cells ≤ (cf (ps' b).2.2).1 ∧ (cf S.2.2).2 + rm.slots ≤ (cf (ps' b).2.2).2) (hdg : decode cc pc = .ok (.invokespecial idx, 3))
    (kk : ∀ b, J X g Q cf (pc + 3) lv ((an' b).toList ++ rest) (ps' b) (k b)) : J X g Q cf pc lv stk S (chk (okc S ci a) (bnd f k)) := by
  refine J.ck (fun hok => ?_)
  refine J.run (rm := rm) (aa := (rv g a :: As).toArray) (rest := rest) hcs ?_ (fun b _ => kk b)
  obtain ⟨p, l, e, R, s, m, args, below, meth, c⟩ := X
  obtain ⟨hx, hb, hml, hown, hr', hlk', hK, hRe, hg⟩ := C
  subst hRe
  intro b hb0 H locs ls hP hS hl
  have hC' := hC l b hb0
  have ha0 : a ≠ 0 := kd_pos hok.1 (by have := vw_get hr; omega)
  rw [rv_ref ha0] at hC' hstk ⊢
  exact va_runIN (Ts := []) (As := As) (rest := rest) ⟨hx, hb, hml, hown, fun w h => by cases h⟩ hC' ⟨call_n hK hM (va_Nw.use rfl (hK.2.2.1 _ hlk rfl)) hR, hy1, hK.2.1 _ hin rfl args⟩ ⟨pre_blind, fun U hU hW => pre_at hK hP hS U hU hW⟩ rfl hn (hl.1.1.trans hml) hstk (lv_room (by rw [cats_sum hcat]; exact hlen)) hdg hroom
/-- Object.<init> -/
theorem J.objInit (C : CX X g cc own ret nL R0) {a : Nat} (hlk : Cond.methodLink own idx Lib.objectInit ∈ lw_tbl) (hin : Cond.instanceMethod Lib.objectInit ∈ lw_tbl) (hcode : Cond.code Lib.objectInit ⟨#[0xb1]⟩ 1 Option.none ∈ lw_tbl) (hcat : cats st) (hR : 1 ≤ R0.frames ∧ st.length + 12 ≤ R0.locals) (hdg : decode cc pc = .ok (.invokespecial idx, 3)) (kk : J X g Q cf (pc + 3) lv st S o) : J X g Q cf pc lv (rv g a :: st) S (chk (¬ a = 0) o) := by
  refine J.ck (fun ha0 => ?_)
  obtain ⟨p, l, e, R, s, m, args, below, meth, c⟩ := X
  obtain ⟨hx, hb, hml, hown, hr', hlk', hK, hRe, hg⟩ := C
  subst hRe
  intro b hb0 H locs ls hP hS hl
  rw [rv_ref ha0]
  exact W.objInit hx hb hown (hK.2.1 _ hlk rfl args) (hK.2.1 _ hin rfl args) (hK.2.1 _ hcode rfl args) rfl hl.1.1 rfl hdg hR.1 (by rw [cats_sum hcat]; show 2 * 0 + _ + 12 ≤ _; omega) (kk b hb0 H locs ls hP hS hl)
end JR3
end
section
section JR4
variable {β : Type} {X : CT} {g : GG} {Q : β → State → Prop} {cf : Nat → Nat × Nat} {pc : Nat} {lv : List (Nat × Value)} {st : List Value} {S : St} {o o1 o2 : Option β} {cc : ByteArray} {own : String} {ret : Option FieldType} {nL : Nat} {R0 : Room}
theorem vw_def {ci : Nat} {r : vw_C} (h : vwCl[ci]? = some r) : ∀ k, k < r.2.2 → defaultValue (tyF ci k) = if rf ci k = true then .null else .int 0 := by
  have hc := vw_get h
  have hk : ci = 0 ∨ ci = 1 ∨ ci = 2 ∨ ci = 3 ∨ ci = 4 ∨ ci = 5 ∨ ci = 6 ∨ ci = 7 ∨ ci = 8 := by omega
  rcases hk with rfl | rfl | rfl | rfl | rfl | rfl | rfl | rfl | rfl <;> cases h <;> decide +kernel
theorem HP.grow {U : State} {H H1 : Heap} {S' : St} (h : HP g U S H) (hn : S'.2.2 = S.2.2 + 1) (hz : H1.size = H.size + 1) (hq : ∀ q : Nat, q < H.size → H1[q]? = H[q]?) (hf : ∀ b, b ≠ S.2.2 → fv g S' b = fv g S b) (hs : CK g U S' H1 S.2.2) : HP g U S' H1 := by
  obtain ⟨h1, h2, h3, h4⟩ := h
  refine ⟨by omega, by omega, h3, fun k k1 k2 => ?_⟩
  by_cases hk : k = S.2.2
  · rw [hk]; exact hs
  · have hlt : k < S.2.2 := by omega
    have hc := h4 k k1 hlt
    have had : ad g k < H.size := by
      rcases Nat.lt_or_ge k 4 with q | q
      · rw [ad_lo q]; have := h3 k q; omega
      · rw [ad_hi q]; omega
    refine ⟨fun q => ?_, fun q => ?_⟩
    · obtain ⟨r, e1, e2⟩ := hc.1 q
      refine ⟨r, e1, ?_⟩
      rw [hf k hk]
      exact e2.kept (hq _ had)
    · obtain ⟨cell, e1, e2⟩ := hc.2 q
      unfold AK
      rw [hf k hk]
      exact ⟨cell, by rw [hq _ had]; exact e1, e2⟩
theorem fv_newS {b : Nat} (h : b ≠ S.2.2) : fv g (newS S) b = fv g S b := by
  funext i
  simp [fv, newS, h]
theorem fv_newS_self (j : Nat) : fv g (newS S) S.2.2 j = if rf (kd S.2.2) j = true then .null else .int 0 := by
  simp [fv, newS, rv]
theorem HP.nxt {U : State} {H : Heap} (h : HP g U S H) : ad g S.2.2 = H.size := by
  rw [ad_hi h.1, h.2.1]
def slT (n : Nat) : Nat := (lnL.take n).sum
/-- a constructor's room: what has been made since the start of it -/
def cfC (n0 : Nat) : Nat → Nat × Nat := fun n => (n - n0, slT n - slT n0)
abbrev nok (n0 dn ds n sz : Nat) : Prop := n0 ≤ n ∧ n + 1 ≤ n0 + dn ∧ slT n0 ≤ slT n ∧ slT n + sz = slT (n + 1) ∧ slT (n + 1) ≤ slT n0 + ds
theorem J.new {idx ci n0 N : Nat} {r : vw_C} {k : St → Option β} (C : CX X g cc own ret nL R0) (hr : vwCl[ci]? = some r) (hN : r.2.2 = N) (hcl : Cond.classLink own idx r.1 ∈ lw_tbl) (hinst : Cond.instantiable r.1 N ∈ lw_tbl) (hini : Cond.initialized r.1 ∈ lw_tbl) (hdg : decode cc pc = .ok (.new idx, 3)) (kk : ∀ S1 : St, S1.2.2 = S.2.2 + 1 → J X g Q (cfC n0) (pc + 3) lv (rv g S.2.2 :: st) S1 (k S1)) : J X g Q (cfC n0) pc lv st S (chk (kd S.2.2 = ci ∧ nok n0 R0.cells R0.slots S.2.2 N) (k (newS S))) := by
  refine J.ck (fun hok => ?_)
  have kk := kk (newS S) rfl
  obtain ⟨p, l, e, R, s, m, args, below, meth, c⟩ := X
  obtain ⟨hx, hb, hml, hown, hr', hlk, hK, hRe, hg⟩ := C
  subst hRe
  obtain ⟨hk, o1, o2, o3, o4, o5⟩ := hok
  intro b hb0 H locs ls hP hS hl
  have hci := vw_get hr
  have hKn := hK.1.1 ci r hr
  have k1 := fun H1 locs => kk b hb0 H1 locs ls
  rw [rv_ref (show S.2.2 ≠ 0 by have := hP.1; omega), hP.nxt] at k1
  refine W.newcK hx hb hown (hK.2.1 _ hcl rfl args) (hK.2.1 _ hinst rfl args) (hK.2.1 _ hini rfl args) rfl hdg (by show S.2.2 - n0 + 1 ≤ R.cells; omega) (by show slT S.2.2 - slT n0 + N ≤ R.slots; omega) hKn.2.1 rfl fun H1 kC hkC e1 z1 o1' => ?_
  refine W.widen (k := ((cfC n0) (newS S).2.2).1) (n := ((cfC n0) (newS S).2.2).2) (by show S.2.2 - n0 + 1 ≤ S.2.2 + 1 - n0; omega) (by show slT S.2.2 - slT n0 + N ≤ slT (S.2.2 + 1) - slT n0; omega) ?_
  refine k1 H1 locs (hP.grow rfl z1 o1' (fun _ h => fv_newS h) ⟨fun _ => ⟨r, by rw [hk]; exact hr, ?_⟩, fun q => by omega⟩) ⟨by rw [z1]; exact Nat.le_trans hS.1 (Nat.le_succ _), fun q q1 q2 => (o1' q (Nat.lt_of_lt_of_le q1 hS.1)).trans (hS.2.1 q q1 q2), hS.2.2⟩ hl
  rw [hk, hP.nxt]
  refine (u_born (tyF ci) (hK.lay hr) (fun _ h => h) hKn hkC e1 (vw_ty hr)).to (fun j hj => ?_)
  rw [fv_newS_self, hk]
  exact vw_def hr j hj
theorem J.newa {n0 N c : Nat} {n : Int32} {atype : ArrayType} {ty : FieldType} {k : St → Option β} (C : CX X g cc own ret nL R0) (hty : newarray.typeOf atype = ty) (hc : 9 < c ∧ c ≠ 99 ∧ tyA c = ty ∧ (∀ j, rf c j = false) ∧ (∀ D : String, ty ≠ .object D) ∧ defaultValue ty = .int 0) (harr : Cond.arrayClass ty ∈ lw_tbl) (hn : ¬ n < 0) (hN : n.toNatClampNeg = N) (hbytes : N * componentBytes ty ≤ 536870912) (hdg : decode cc pc = .ok (.newarray atype, 2)) (kk : ∀ S1 : St, S1.2.2 = S.2.2 + 1 → J X g Q (cfC n0) (pc + 2) lv (rv g S.2.2 :: st) S1 (k S1)) : J X g Q (cfC n0) pc lv (.int n :: st) S (chk ((kd S.2.2 = c ∧ ln S.2.2 = N) ∧ nok n0 R0.cells R0.slots S.2.2 N) (k (newS S))) := by
  refine J.ck (fun hok => ?_)
  have kk := kk (newS S) rfl
  obtain ⟨p, l, e, R, s, m, args, below, meth, c'⟩ := X
  obtain ⟨hx, hb, hml, hown, hr', hlk, hK, hRe, hg⟩ := C
  subst hRe
  subst hty
  obtain ⟨⟨hk, hkn⟩, o1, o2, o3, o4, o5⟩ := hok
  obtain ⟨c1, c2, c3, c4, c5, c6⟩ := hc
  intro b hb0 H locs ls hP hS hl
  have k1 := fun H1 locs => kk b hb0 H1 locs ls
  rw [rv_ref (show S.2.2 ≠ 0 by have := hP.1; omega), hP.nxt] at k1
  refine va_newaK hx hb (hK.2.1 _ harr rfl args) rfl hdg rfl hn hN hbytes (by show S.2.2 - n0 + 1 ≤ R.cells; omega) (by show slT S.2.2 - slT n0 + N ≤ R.slots; omega) rfl fun H1 cA e1 z1 o1' hAr _ => ?_
  refine W.widen (k := ((cfC n0) (newS S).2.2).1) (n := ((cfC n0) (newS S).2.2).2) (by show S.2.2 - n0 + 1 ≤ S.2.2 + 1 - n0; omega) (by show slT S.2.2 - slT n0 + N ≤ slT (S.2.2 + 1) - slT n0; omega) ?_
  refine k1 H1 locs (hP.grow rfl z1 o1' (fun _ h => fv_newS h) ⟨fun q => by omega, fun _ => ?_⟩) ⟨by rw [z1]; exact Nat.le_trans hS.1 (Nat.le_succ _), fun q q1 q2 => (o1' q (Nat.lt_of_lt_of_le q1 hS.1)).trans (hS.2.1 q q1 q2), hS.2.2⟩ hl
  rw [hk, c3, hkn, hP.nxt]
  refine ⟨_, e1, hAr _ _, (fun h => by cases h), Nat.le_of_eq (arrV_size _ _ _).symm, by rw [arrV_size], fun j hj => ?_, fun D hD => absurd hD (c5 D)⟩
  rw [arrV_read _ _ hj, fv_newS_self, hk, c4 j, c6]
  rfl
theorem J.newr {n0 N c idx ce : Nat} {n : Int32} {r : vw_C} {k : St → Option β} (C : CX X g cc own ret nL R0) (hce : vwCl[ce]? = some r) (hc : 9 < c ∧ c ≠ 99 ∧ tyA c = .object r.1 ∧ ∀ j, rf c j = true) (hcl : Cond.classLink own idx r.1 ∈ lw_tbl) (hao : ∀ U, KU g U → va_AO r.1 U) (hn : ¬ n < 0) (hN : n.toNatClampNeg = N) (hbytes : N * 4 ≤ 536870912) (hdg : decode cc pc = .ok (.anewarray idx, 3)) (kk : ∀ S1 : St, S1.2.2 = S.2.2 + 1 → J X g Q (cfC n0) (pc + 3) lv (rv g S.2.2 :: st) S1 (k S1)) : J X g Q (cfC n0) pc lv (.int n :: st) S (chk ((kd S.2.2 = c ∧ ln S.2.2 = N) ∧ nok n0 R0.cells R0.slots S.2.2 N) (k (newS S))) := by
  refine J.ck (fun hok => ?_)
  have kk := kk (newS S) rfl
  obtain ⟨p, l, e, R, s, m, args, below, meth, c'⟩ := X
  obtain ⟨hx, hb, hml, hown, hr', hlk, hK, hRe, hg⟩ := C
  subst hRe
  subst hN
  obtain ⟨⟨hk, hkn⟩, o1, o2, o3, o4, o5⟩ := hok
  obtain ⟨c1, c2, c3, c4⟩ := hc
  intro b hb0 H locs ls hP hS hl
  have k1 := fun H1 locs => kk b hb0 H1 locs ls
  rw [rv_ref (show S.2.2 ≠ 0 by have := hP.1; omega), hP.nxt] at k1
  refine W.anew hx hb hown (hK.2.1 _ hcl rfl args) (va_AO.use (hao s hK)) rfl hdg rfl hn hbytes (by show S.2.2 - n0 + 1 ≤ R.cells; omega) (by show slT S.2.2 - slT n0 + n.toNatClampNeg ≤ R.slots; omega) fun cA kA comp f1 f2 f3 f4 => ?_
  generalize hH1 : H.push ({ cls := cA, slots := Array.replicate n.toNatClampNeg .null, vm := .none } : Cell) = H1
  have z1 : H1.size = H.size + 1 := by rw [← hH1, Array.size_push]
  have e1 : H1[H.size]? = some (arrV cA n.toNatClampNeg (fun _ => .null)) := by rw [← hH1, Array.getElem?_push_size, ← arrV_new]
  have o1' : ∀ q : Nat, q < H.size → H1[q]? = H[q]? := fun q hq => by rw [← hH1, Array.getElem?_push, if_neg (Nat.ne_of_lt hq)]
  refine W.widen (k := ((cfC n0) (newS S).2.2).1) (n := ((cfC n0) (newS S).2.2).2) (by show S.2.2 - n0 + 1 ≤ S.2.2 + 1 - n0; omega) (by show slT S.2.2 - slT n0 + n.toNatClampNeg ≤ slT (S.2.2 + 1) - slT n0; omega) ?_
  refine k1 H1 locs (hP.grow rfl z1 o1' (fun _ h => fv_newS h) ⟨fun q => by omega, fun _ => ?_⟩) ⟨by rw [z1]; exact Nat.le_trans hS.1 (Nat.le_succ _), fun q q1 q2 => (o1' q (Nat.lt_of_lt_of_le q1 hS.1)).trans (hS.2.1 q q1 q2), hS.2.2⟩ hl
  rw [hk, c3, hkn, hP.nxt]
  refine ⟨_, e1, ⟨(fun k h => by cases h), kA, f2, comp, f3⟩, (fun h => by cases h), Nat.le_of_eq (arrV_size _ _ _).symm, by rw [arrV_size], fun j hj => ?_, fun D hD => ?_⟩
  · rw [arrV_read _ _ hj, fv_newS_self, hk, c4 j]
    rfl
  · cases hD
    exact ⟨kA, comp, f2, f3, f4⟩
/-! small things for the printed walks -/
def vlt {α β : Type} (x : α) (k : α → Option β) : Option β := k x
def bnd2 {α β : Type} (o : Option (α × St)) (k : α → St → Option β) : Option β := bnd o (fun q => k q.1 q.2)
theorem J.vl {α : Type} {x : α} {k : α → Option β} (kk : J X g Q cf pc lv st S (k x)) : J X g Q cf pc lv st S (vlt x k) := kk
theorem J.topi {x : Int32} {k : Int32 → Option β} (kk : ∀ y : Int32, J X g Q cf pc lv (.int y :: st) S (k y)) : J X g Q cf pc lv (.int x :: st) S (vlt x k) := kk x
theorem J.pick {lv' : List (Nat × Value)} (ks : List Nat) (h : lv_pick lv ks = lv') (kk : J X g Q cf pc lv' st S o) : J X g Q cf pc lv st S o := by
  refine J.sub (fun q hq => ?_) kk
  rw [← h] at hq
  obtain ⟨k, -, hk⟩ := List.mem_filterMap.mp hq
  exact List.mem_of_getElem? hk
theorem J.putIs {ci j idx a : Nat} {x : Int32} {k : St → Option β} (C : CX X g cc own ret nL R0) (hf : FL own idx ci j) (hrf : rf ci j = false) (hfin : ∀ r : vw_C, vwCl[ci]? = some r → (r.2.1 j).2.2.2 = false) (hnr : narrow (tyF ci j) (.int x) = .int x) (hfit : fits (tyF ci j) (.int x) = true) (hdg : decode cc pc = .ok (.putfield idx, 3)) (kk : ∀ S1 : St, J X g Q cf (pc + 3) lv st S1 (k S1)) : J X g Q cf pc lv (.int x :: rv g a :: st) S (chk (okc S ci a) (k (upI S a j x))) :=
  J.putI C hf hrf hfin hnr hfit hdg (kk _)
theorem J.putRs {ci j idx a x : Nat} {k : St → Option β} (C : CX X g cc own ret nL R0) (hf : FL own idx ci j) (hrf : rf ci j = true) (hfin : (∀ r : vw_C, vwCl[ci]? = some r → (r.2.1 j).2.2.2 = true ∧ (r.2.1 j).1 = own)) (hin : X.2.2.2.2.2.2.2.2.1.name = "<init>") (hnr : narrow (tyF ci j) (rv g x) = rv g x) (hfit : fits (tyF ci j) (rv g x) = true) (hdg : decode cc pc = .ok (.putfield idx, 3)) (kk : ∀ S1 : St, J X g Q cf (pc + 3) lv st S1 (k S1)) : J X g Q cf pc lv (rv g x :: rv g a :: st) S (chk (okc S ci a) (k (upR S a j x))) :=
  J.putR C hf hrf hfin hin hnr hfit hdg (kk _)
theorem J.iasts {a : Nat} {i x : Int32} {k : St → Option β} (C : CX X g cc own ret nL R0) (hdg : decode cc pc = .ok (.iastore, 1)) (kk : ∀ S1 : St, J X g Q cf (pc + 1) lv st S1 (k S1)) : J X g Q cf pc lv (.int x :: .int i :: rv g a :: st) S (chk (inw S 10 a i) (k (upI S a i.toNatClampNeg x))) :=
  J.iast C hdg (kk _)
theorem J.casts {a : Nat} {i x : Int32} {k : St → Option β} (C : CX X g cc own ret nL R0) (hx0 : narrow .char (.int x) = .int x) (hdg : decode cc pc = .ok (.castore, 1)) (kk : ∀ S1 : St, J X g Q cf (pc + 1) lv st S1 (k S1)) : J X g Q cf pc lv (.int x :: .int i :: rv g a :: st) S (chk (inw S 11 a i) (k (upI S a i.toNatClampNeg x))) :=
  J.cast C hx0 hdg (kk _)
theorem J.aasts {a v : Nat} {i : Int32} {k : St → Option β} {r : vw_C} (C : CX X g cc own ret nL R0) (c ce : Nat) (hc : 9 < c ∧ c ≠ 99) (hrf : ∀ j, rf c j = true) (hce : vwCl[ce]? = some r) (hty : tyA c = .object r.1) (hdg : decode cc pc = .ok (.aastore, 1)) (kk : ∀ S1 : St, J X g Q cf (pc + 1) lv st S1 (k S1)) : J X g Q cf pc lv (rv g v :: .int i :: rv g a :: st) S (chk (inw S c a i ∧ okc S ce v) (k (upR S a i.toNatClampNeg v))) :=
  J.aast C c ce hc hrf hce hty hdg (kk _)
theorem nar_z {v : Int32} (h : v = 0 ∨ v = 1) : narrow .boolean (.int v) = .int v := by
  rcases h with rfl | rfl <;> rfl
theorem fit_z {v : Int32} (h : v = 0 ∨ v = 1) : fits .boolean (.int v) = true := by
  rcases h with rfl | rfl <;> rfl
abbrev isC (v : Int32) : Prop := v.toUInt32.toUInt16.toUInt32.toInt32 = v
theorem nar_c {v : Int32} (h : isC v) : narrow .char (.int v) = .int v := by
  have e : narrow .char (.int v) = .int v.toUInt32.toUInt16.toUInt32.toInt32 := rfl
  rw [e, h]
theorem fit_c {v : Int32} (h : isC v) : fits .char (.int v) = true := by
  have h1 := fits_narrow_char v
  rw [nar_c h] at h1
  exact h1
theorem nar_r {n : String} {x : Nat} : narrow (.object n) (rv g x) = rv g x := by unfold rv; split <;> rfl
theorem fit_r {n : String} {x : Nat} : fits (.object n) (rv g x) = true := by unfold rv; split <;> rfl
theorem nar_ra {t : FieldType} {x : Nat} : narrow (.array t) (rv g x) = rv g x := by unfold rv; split <;> rfl
theorem fit_ra {t : FieldType} {x : Nat} : fits (.array t) (rv g x) = true := by unfold rv; split <;> rfl
/-- the room of a method that makes nothing -/
def cw (w : Nat × Nat) : Nat → Nat × Nat := fun _ => w
def aI : Int32 → Option Value := fun x => some (.int x)
def aR (g : GG) : Nat → Option Value := fun x => some (rv g x)
def aU : St → Option Value := fun _ => Option.none
def aW : Int32 × St → Option Value := fun q => some (.int q.1)
def pK {α : Type} (S : St) : α → St := fun _ => S
def pU : St → St := fun S => S
def pW : Int32 × St → St := fun q => q.2
def lva : Nat → List Value → List (Nat × Value)
  | _, [] => []
  | n, v :: t => (n, v) :: lva (n + 1) t
theorem lva_eq : ∀ {vs : List Value} (n : Nat), cats vs → lv_args n vs = lva n vs
  | [], _, _ => rfl
  | v :: t, n, h => by
    have h1 := h v List.mem_cons_self
    have h2 := lva_eq (vs := t) (n + 1) (fun w hw => h w (List.mem_cons_of_mem _ hw))
    unfold lv_args lva
    rw [if_neg (by rw [h1]; decide), h2]
theorem lg_len : ∀ {vs : List Value}, cats vs → (lg_sl vs).length = vs.length
  | [], _ => rfl
  | v :: t, h => by
    have h1 := h v List.mem_cons_self
    have h2 := lg_len (vs := t) (fun w hw => h w (List.mem_cons_of_mem _ hw))
    have e : lg_sl (v :: t) = [Slot.val v] ++ lg_sl t := by
      unfold lg_sl
      rw [List.flatMap_cons, if_neg (by rw [h1]; decide)]
    rw [e, List.length_append, h2]
    simp
    omega
theorem lva_cat : ∀ {vs : List Value} (n : Nat), cats vs → ∀ q ∈ lva n vs, q.2.category = 1
  | [], _, _, q, hq => by cases hq
  | v :: t, n, h, q, hq => by
    unfold lva at hq
    rcases List.mem_cons.mp hq with e | e
    · rw [e]; exact h v List.mem_cons_self
    · exact lva_cat (vs := t) (n + 1) (fun w hw => h w (List.mem_cons_of_mem _ hw)) q e
theorem Ct.mk {γ : Type} {l : Launch} {y : MethodName} {cc : ByteArray} {nL : Nat} {ret : Option FieldType} {rm : Room} {g : GG} {an : γ → Option Value} {ps : γ → St} {as : List Value} {S : St} {o : Option γ} {cf : Nat → Nat × Nat} (hy : plainName y.cls = true) (hcat : cats as) (hlen : as.length ≤ nL) (hcf : cf S.2.2 = (0, 0))
    (body : ∀ X : CT, X.2.1 = l → X.2.2.2.2.2.2.2.2.1.name = y.name → CX X g cc y.cls ret nL rm → J X g (Qm X g an ps) cf 0 (lva 0 as) [] S o) : Ct l y cc nL ret rm g an ps as S o :=
  Ct.of hy (by rw [lg_len hcat]; exact hlen) (lva_eq 0 hcat) (lva_cat 0 hcat) hcf body
end JR4
section JR5
variable {β : Type} {X : CT} {g : GG} {Q : β → State → Prop} {w : Nat × Nat} {pc : Nat} {lv : List (Nat × Value)} {S : St} {cc : ByteArray} {own : String} {ret : Option FieldType} {nL : Nat} {R0 : Room} {stk rest : List Value} {rm : Room} {As : List Value} {y : MethodName} {cc' : ByteArray} {nL' idx n : Nat} {ret' : Option FieldType}
/-- what the tables say of a static method, of an object's method -/
def MSs (y : MethodName) (cc : ByteArray) (nL : Nat) (ret : Option FieldType) (n : Nat) : Prop := MS y cc nL ret n ∧ Cond.static y ∈ lw_tbl
def MSv (ci : Nat) (y : MethodName) (cc : ByteArray) (nL : Nat) (ret : Option FieldType) (n : Nat) : Prop := ∃ r : vw_C, vwCl[ci]? = some r ∧ y.cls = r.1 ∧ MS y cc nL ret n ∧ Cond.instanceMethod y ∈ lw_tbl ∧ Cond.selects r.1 y y ∈ lw_tbl
def MSi (ci : Nat) (y : MethodName) (cc : ByteArray) (nL : Nat) (n : Nat) : Prop := ∃ r : vw_C, vwCl[ci]? = some r ∧ MS y cc nL Option.none n ∧ Cond.instanceMethod y ∈ lw_tbl ∧ y.name = "<init>"
theorem J.sI {f : Option (Int32)} {k : Int32 → Option β} (C : CX X g cc own ret nL R0) (hM : MSs y cc' nL' ret' n) (hlk : Cond.methodLink own idx y ∈ lw_tbl) (hC : ∀ l, Ct l y cc' nL' ret' rm g aI (pK S) As S f) (hroom : (w.1 ≤ R0.cells ∧ w.2 ≤ R0.slots) ∧ rm.cells = 0 ∧ rm.slots = 0) (hn : As.length = n) (hR : rm.frames + 1 ≤ R0.frames ∧ 8 + (nL' + 11) + rm.locals ≤ R0.locals) (hstk : stk = As.reverse ++ rest) (hcat : cats rest) (hlen : rest.length ≤ 8) (hdg : decode cc pc = .ok (.invokestatic idx, 3)) (kk : ∀ r : Int32, J X g Q (cw w) (pc + 3) lv (.int r :: rest) S (k r)) : J X g Q (cw w) pc lv stk S (bnd f k) := J.callS C hM.1 hM.2 hlk hC hn hstk hcat hlen hR (show (cw w S.2.2).1 + rm.cells ≤ R0.cells ∧ (cw w S.2.2).2 + rm.slots ≤ R0.slots by rw [hroom.2.1, hroom.2.2]; exact hroom.1) (fun b _ => (show w.1 + rm.cells ≤ w.1 ∧ w.2 + rm.slots ≤ w.2 by rw [hroom.2.1, hroom.2.2]; exact ⟨Nat.le_refl _, Nat.le_refl _⟩)) hdg (fun b => kk b)
theorem J.snI {host : String} {f : Option (Int32)} {k : Int32 → Option β} (C : CX X g cc own ret nL R0) (hM : MSs y cc' nL' ret' n) (hlk : Cond.methodLinkNest own idx y host ∈ lw_tbl) (hC : ∀ l, Ct l y cc' nL' ret' rm g aI (pK S) As S f) (hroom : (w.1 ≤ R0.cells ∧ w.2 ≤ R0.slots) ∧ rm.cells = 0 ∧ rm.slots = 0) (hn : As.length = n) (hR : rm.frames + 1 ≤ R0.frames ∧ 8 + (nL' + 11) + rm.locals ≤ R0.locals) (hstk : stk = As.reverse ++ rest) (hcat : cats rest) (hlen : rest.length ≤ 8) (hdg : decode cc pc = .ok (.invokestatic idx, 3)) (kk : ∀ r : Int32, J X g Q (cw w) (pc + 3) lv (.int r :: rest) S (k r)) : J X g Q (cw w) pc lv stk S (bnd f k) := J.callSN C hM.1 hM.2 hlk hC hn hstk hcat hlen hR (show (cw w S.2.2).1 + rm.cells ≤ R0.cells ∧ (cw w S.2.2).2 + rm.slots ≤ R0.slots by rw [hroom.2.1, hroom.2.2]; exact hroom.1) (fun b _ => (show w.1 + rm.cells ≤ w.1 ∧ w.2 + rm.slots ≤ w.2 by rw [hroom.2.1, hroom.2.2]; exact ⟨Nat.le_refl _, Nat.le_refl _⟩)) hdg (fun b => kk b)
theorem J.vI {ci a : Nat} {f : Option (Int32)} {k : Int32 → Option β} (C : CX X g cc own ret nL R0) (hM : MSv ci y cc' nL' ret' n) (hlk : Cond.methodLink own idx y ∈ lw_tbl) (hC : ∀ l, Ct l y cc' nL' ret' rm g aI (pK S) (rv g a :: As) S f) (hroom : (w.1 ≤ R0.cells ∧ w.2 ≤ R0.slots) ∧ rm.cells = 0 ∧ rm.slots = 0) (hn : As.length = n) (hR : rm.frames + 1 ≤ R0.frames ∧ 8 + (nL' + 11) + rm.locals ≤ R0.locals) (hstk : stk = As.reverse ++ rv g a :: rest) (hcat : cats rest) (hlen : rest.length ≤ 8) (hdg : decode cc pc = .ok (.invokevirtual idx, 3)) (kk : ∀ r : Int32, J X g Q (cw w) (pc + 3) lv (.int r :: rest) S (k r)) : J X g Q (cw w) pc lv stk S (chk (okc S ci a) (bnd f k)) := by
  obtain ⟨r, m1, m2, m3, m4, m5⟩ := hM
  exact J.callV C m1 m2 m3 m4 m5 hlk hC hn hstk hcat hlen hR (show (cw w S.2.2).1 + rm.cells ≤ R0.cells ∧ (cw w S.2.2).2 + rm.slots ≤ R0.slots by rw [hroom.2.1, hroom.2.2]; exact hroom.1) (fun b _ => (show w.1 + rm.cells ≤ w.1 ∧ w.2 + rm.slots ≤ w.2 by rw [hroom.2.1, hroom.2.2]; exact ⟨Nat.le_refl _, Nat.le_refl _⟩)) hdg (fun b => kk b)
theorem J.sR {f : Option (Nat)} {k : Nat → Option β} (C : CX X g cc own ret nL R0) (hM : MSs y cc' nL' ret' n) (hlk : Cond.methodLink own idx y ∈ lw_tbl) (hC : ∀ l, Ct l y cc' nL' ret' rm g (aR g) (pK S) As S f) (hroom : (w.1 ≤ R0.cells ∧ w.2 ≤ R0.slots) ∧ rm.cells = 0 ∧ rm.slots = 0) (hn : As.length = n) (hR : rm.frames + 1 ≤ R0.frames ∧ 8 + (nL' + 11) + rm.locals ≤ R0.locals) (hstk : stk = As.reverse ++ rest) (hcat : cats rest) (hlen : rest.length ≤ 8) (hdg : decode cc pc = .ok (.invokestatic idx, 3)) (kk : ∀ r : Nat, J X g Q (cw w) (pc + 3) lv (rv g r :: rest) S (k r)) : J X g Q (cw w) pc lv stk S (bnd f k) := J.callS C hM.1 hM.2 hlk hC hn hstk hcat hlen hR (show (cw w S.2.2).1 + rm.cells ≤ R0.cells ∧ (cw w S.2.2).2 + rm.slots ≤ R0.slots by rw [hroom.2.1, hroom.2.2]; exact hroom.1) (fun b _ => (show w.1 + rm.cells ≤ w.1 ∧ w.2 + rm.slots ≤ w.2 by rw [hroom.2.1, hroom.2.2]; exact ⟨Nat.le_refl _, Nat.le_refl _⟩)) hdg (fun b => kk b)
theorem J.snR {host : String} {f : Option (Nat)} {k : Nat → Option β} (C : CX X g cc own ret nL R0) (hM : MSs y cc' nL' ret' n) (hlk : Cond.methodLinkNest own idx y host ∈ lw_tbl) (hC : ∀ l, Ct l y cc' nL' ret' rm g (aR g) (pK S) As S f) (hroom : (w.1 ≤ R0.cells ∧ w.2 ≤ R0.slots) ∧ rm.cells = 0 ∧ rm.slots = 0) (hn : As.length = n) (hR : rm.frames + 1 ≤ R0.frames ∧ 8 + (nL' + 11) + rm.locals ≤ R0.locals) (hstk : stk = As.reverse ++ rest) (hcat : cats rest) (hlen : rest.length ≤ 8) (hdg : decode cc pc = .ok (.invokestatic idx, 3)) (kk : ∀ r : Nat, J X g Q (cw w) (pc + 3) lv (rv g r :: rest) S (k r)) : J X g Q (cw w) pc lv stk S (bnd f k) := J.callSN C hM.1 hM.2 hlk hC hn hstk hcat hlen hR (show (cw w S.2.2).1 + rm.cells ≤ R0.cells ∧ (cw w S.2.2).2 + rm.slots ≤ R0.slots by rw [hroom.2.1, hroom.2.2]; exact hroom.1) (fun b _ => (show w.1 + rm.cells ≤ w.1 ∧ w.2 + rm.slots ≤ w.2 by rw [hroom.2.1, hroom.2.2]; exact ⟨Nat.le_refl _, Nat.le_refl _⟩)) hdg (fun b => kk b)
theorem J.vR {ci a : Nat} {f : Option (Nat)} {k : Nat → Option β} (C : CX X g cc own ret nL R0) (hM : MSv ci y cc' nL' ret' n) (hlk : Cond.methodLink own idx y ∈ lw_tbl) (hC : ∀ l, Ct l y cc' nL' ret' rm g (aR g) (pK S) (rv g a :: As) S f) (hroom : (w.1 ≤ R0.cells ∧ w.2 ≤ R0.slots) ∧ rm.cells = 0 ∧ rm.slots = 0) (hn : As.length = n) (hR : rm.frames + 1 ≤ R0.frames ∧ 8 + (nL' + 11) + rm.locals ≤ R0.locals) (hstk : stk = As.reverse ++ rv g a :: rest) (hcat : cats rest) (hlen : rest.length ≤ 8) (hdg : decode cc pc = .ok (.invokevirtual idx, 3)) (kk : ∀ r : Nat, J X g Q (cw w) (pc + 3) lv (rv g r :: rest) S (k r)) : J X g Q (cw w) pc lv stk S (chk (okc S ci a) (bnd f k)) := by
  obtain ⟨r, m1, m2, m3, m4, m5⟩ := hM
  exact J.callV C m1 m2 m3 m4 m5 hlk hC hn hstk hcat hlen hR (show (cw w S.2.2).1 + rm.cells ≤ R0.cells ∧ (cw w S.2.2).2 + rm.slots ≤ R0.slots by rw [hroom.2.1, hroom.2.2]; exact hroom.1) (fun b _ => (show w.1 + rm.cells ≤ w.1 ∧ w.2 + rm.slots ≤ w.2 by rw [hroom.2.1, hroom.2.2]; exact ⟨Nat.le_refl _, Nat.le_refl _⟩)) hdg (fun b => kk b)
theorem J.sU {f : Option (St)} {k : St → Option β} (C : CX X g cc own ret nL R0) (hM : MSs y cc' nL' ret' n) (hlk : Cond.methodLink own idx y ∈ lw_tbl) (hC : ∀ l, Ct l y cc' nL' ret' rm g aU pU As S f) (hroom : (w.1 ≤ R0.cells ∧ w.2 ≤ R0.slots) ∧ rm.cells = 0 ∧ rm.slots = 0) (hn : As.length = n) (hR : rm.frames + 1 ≤ R0.frames ∧ 8 + (nL' + 11) + rm.locals ≤ R0.locals) (hstk : stk = As.reverse ++ rest) (hcat : cats rest) (hlen : rest.length ≤ 8) (hdg : decode cc pc = .ok (.invokestatic idx, 3)) (kk : ∀ S1 : St, J X g Q (cw w) (pc + 3) lv rest S1 (k S1)) : J X g Q (cw w) pc lv stk S (bnd f k) := J.callS C hM.1 hM.2 hlk hC hn hstk hcat hlen hR (show (cw w S.2.2).1 + rm.cells ≤ R0.cells ∧ (cw w S.2.2).2 + rm.slots ≤ R0.slots by rw [hroom.2.1, hroom.2.2]; exact hroom.1) (fun b _ => (show w.1 + rm.cells ≤ w.1 ∧ w.2 + rm.slots ≤ w.2 by rw [hroom.2.1, hroom.2.2]; exact ⟨Nat.le_refl _, Nat.le_refl _⟩)) hdg (fun b => kk b)
theorem J.snU {host : String} {f : Option (St)} {k : St → Option β} (C : CX X g cc own ret nL R0) (hM : MSs y cc' nL' ret' n) (hlk : Cond.methodLinkNest own idx y host ∈ lw_tbl) (hC : ∀ l, Ct l y cc' nL' ret' rm g aU pU As S f) (hroom : (w.1 ≤ R0.cells ∧ w.2 ≤ R0.slots) ∧ rm.cells = 0 ∧ rm.slots = 0) (hn : As.length = n) (hR : rm.frames + 1 ≤ R0.frames ∧ 8 + (nL' + 11) + rm.locals ≤ R0.locals) (hstk : stk = As.reverse ++ rest) (hcat : cats rest) (hlen : rest.length ≤ 8) (hdg : decode cc pc = .ok (.invokestatic idx, 3)) (kk : ∀ S1 : St, J X g Q (cw w) (pc + 3) lv rest S1 (k S1)) : J X g Q (cw w) pc lv stk S (bnd f k) := J.callSN C hM.1 hM.2 hlk hC hn hstk hcat hlen hR (show (cw w S.2.2).1 + rm.cells ≤ R0.cells ∧ (cw w S.2.2).2 + rm.slots ≤ R0.slots by rw [hroom.2.1, hroom.2.2]; exact hroom.1) (fun b _ => (show w.1 + rm.cells ≤ w.1 ∧ w.2 + rm.slots ≤ w.2 by rw [hroom.2.1, hroom.2.2]; exact ⟨Nat.le_refl _, Nat.le_refl _⟩)) hdg (fun b => kk b)
theorem J.vU {ci a : Nat} {f : Option (St)} {k : St → Option β} (C : CX X g cc own ret nL R0) (hM : MSv ci y cc' nL' ret' n) (hlk : Cond.methodLink own idx y ∈ lw_tbl) (hC : ∀ l, Ct l y cc' nL' ret' rm g aU pU (rv g a :: As) S f) (hroom : (w.1 ≤ R0.cells ∧ w.2 ≤ R0.slots) ∧ rm.cells = 0 ∧ rm.slots = 0) (hn : As.length = n) (hR : rm.frames + 1 ≤ R0.frames ∧ 8 + (nL' + 11) + rm.locals ≤ R0.locals) (hstk : stk = As.reverse ++ rv g a :: rest) (hcat : cats rest) (hlen : rest.length ≤ 8) (hdg : decode cc pc = .ok (.invokevirtual idx, 3)) (kk : ∀ S1 : St, J X g Q (cw w) (pc + 3) lv rest S1 (k S1)) : J X g Q (cw w) pc lv stk S (chk (okc S ci a) (bnd f k)) := by
  obtain ⟨r, m1, m2, m3, m4, m5⟩ := hM
  exact J.callV C m1 m2 m3 m4 m5 hlk hC hn hstk hcat hlen hR (show (cw w S.2.2).1 + rm.cells ≤ R0.cells ∧ (cw w S.2.2).2 + rm.slots ≤ R0.slots by rw [hroom.2.1, hroom.2.2]; exact hroom.1) (fun b _ => (show w.1 + rm.cells ≤ w.1 ∧ w.2 + rm.slots ≤ w.2 by rw [hroom.2.1, hroom.2.2]; exact ⟨Nat.le_refl _, Nat.le_refl _⟩)) hdg (fun b => kk b)
theorem J.sW {f : Option (Int32 × St)} {k : Int32 → St → Option β} (C : CX X g cc own ret nL R0) (hM : MSs y cc' nL' ret' n) (hlk : Cond.methodLink own idx y ∈ lw_tbl) (hC : ∀ l, Ct l y cc' nL' ret' rm g aW pW As S f) (hroom : (w.1 ≤ R0.cells ∧ w.2 ≤ R0.slots) ∧ rm.cells = 0 ∧ rm.slots = 0) (hn : As.length = n) (hR : rm.frames + 1 ≤ R0.frames ∧ 8 + (nL' + 11) + rm.locals ≤ R0.locals) (hstk : stk = As.reverse ++ rest) (hcat : cats rest) (hlen : rest.length ≤ 8) (hdg : decode cc pc = .ok (.invokestatic idx, 3)) (kk : ∀ (r : Int32) (S1 : St), J X g Q (cw w) (pc + 3) lv (.int r :: rest) S1 (k r S1)) : J X g Q (cw w) pc lv stk S (bnd2 f k) := J.callS C hM.1 hM.2 hlk hC hn hstk hcat hlen hR (show (cw w S.2.2).1 + rm.cells ≤ R0.cells ∧ (cw w S.2.2).2 + rm.slots ≤ R0.slots by rw [hroom.2.1, hroom.2.2]; exact hroom.1) (fun b _ => (show w.1 + rm.cells ≤ w.1 ∧ w.2 + rm.slots ≤ w.2 by rw [hroom.2.1, hroom.2.2]; exact ⟨Nat.le_refl _, Nat.le_refl _⟩)) hdg (fun b => kk b.1 b.2)
theorem J.snW {host : String} {f : Option (Int32 × St)} {k : Int32 → St → Option β} (C : CX X g cc own ret nL R0) (hM : MSs y cc' nL' ret' n) (hlk : Cond.methodLinkNest own idx y host ∈ lw_tbl) (hC : ∀ l, Ct l y cc' nL' ret' rm g aW pW As S f) (hroom : (w.1 ≤ R0.cells ∧ w.2 ≤ R0.slots) ∧ rm.cells = 0 ∧ rm.slots = 0) (hn : As.length = n) (hR : rm.frames + 1 ≤ R0.frames ∧ 8 + (nL' + 11) + rm.locals ≤ R0.locals) (hstk : stk = As.reverse ++ rest) (hcat : cats rest) (hlen : rest.length ≤ 8) (hdg : decode cc pc = .ok (.invokestatic idx, 3)) (kk : ∀ (r : Int32) (S1 : St), J X g Q (cw w) (pc + 3) lv (.int r :: rest) S1 (k r S1)) : J X g Q (cw w) pc lv stk S (bnd2 f k) := J.callSN C hM.1 hM.2 hlk hC hn hstk hcat hlen hR (show (cw w S.2.2).1 + rm.cells ≤ R0.cells ∧ (cw w S.2.2).2 + rm.slots ≤ R0.slots by rw [hroom.2.1, hroom.2.2]; exact hroom.1) (fun b _ => (show w.1 + rm.cells ≤ w.1 ∧ w.2 + rm.slots ≤ w.2 by rw [hroom.2.1, hroom.2.2]; exact ⟨Nat.le_refl _, Nat.le_refl _⟩)) hdg (fun b => kk b.1 b.2)
theorem J.vW {ci a : Nat} {f : Option (Int32 × St)} {k : Int32 → St → Option β} (C : CX X g cc own ret nL R0) (hM : MSv ci y cc' nL' ret' n) (hlk : Cond.methodLink own idx y ∈ lw_tbl) (hC : ∀ l, Ct l y cc' nL' ret' rm g aW pW (rv g a :: As) S f) (hroom : (w.1 ≤ R0.cells ∧ w.2 ≤ R0.slots) ∧ rm.cells = 0 ∧ rm.slots = 0) (hn : As.length = n) (hR : rm.frames + 1 ≤ R0.frames ∧ 8 + (nL' + 11) + rm.locals ≤ R0.locals) (hstk : stk = As.reverse ++ rv g a :: rest) (hcat : cats rest) (hlen : rest.length ≤ 8) (hdg : decode cc pc = .ok (.invokevirtual idx, 3)) (kk : ∀ (r : Int32) (S1 : St), J X g Q (cw w) (pc + 3) lv (.int r :: rest) S1 (k r S1)) : J X g Q (cw w) pc lv stk S (chk (okc S ci a) (bnd2 f k)) := by
  obtain ⟨r, m1, m2, m3, m4, m5⟩ := hM
  exact J.callV C m1 m2 m3 m4 m5 hlk hC hn hstk hcat hlen hR (show (cw w S.2.2).1 + rm.cells ≤ R0.cells ∧ (cw w S.2.2).2 + rm.slots ≤ R0.slots by rw [hroom.2.1, hroom.2.2]; exact hroom.1) (fun b _ => (show w.1 + rm.cells ≤ w.1 ∧ w.2 + rm.slots ≤ w.2 by rw [hroom.2.1, hroom.2.2]; exact ⟨Nat.le_refl _, Nat.le_refl _⟩)) hdg (fun b => kk b.1 b.2)
end JR5
section JR6
variable {β : Type} {X : CT} {g : GG} {Q : β → State → Prop} {n0 : Nat} {pc : Nat} {lv : List (Nat × Value)} {S : St} {cc : ByteArray} {own : String} {ret : Option FieldType} {nL : Nat} {R0 : Room} {stk rest : List Value} {rm : Room} {As : List Value} {y : MethodName} {cc' : ByteArray} {nL' idx n : Nat} {ret' : Option FieldType}
abbrev rok (n0 dn ds n : Nat) : Prop := n0 ≤ n ∧ n ≤ n0 + dn ∧ slT n0 ≤ slT n ∧ slT n ≤ slT n0 + ds
abbrev rok2 (n0 dn ds dm sm n : Nat) : Prop := n0 ≤ n ∧ n + dm ≤ n0 + dn ∧ slT n0 ≤ slT n ∧ slT n + sm ≤ slT n0 + ds
theorem cfC_0 (n0 : Nat) : cfC n0 n0 = (0, 0) := by
  unfold cfC
  rw [Nat.sub_self, Nat.sub_self]
theorem rok_le {n0 dn ds n : Nat} (h : rok n0 dn ds n) : (cfC n0 n).1 ≤ dn ∧ (cfC n0 n).2 ≤ ds := by
  obtain ⟨h1, h2, h3, h4⟩ := h
  exact ⟨show n - n0 ≤ dn by omega, show slT n - slT n0 ≤ ds by omega⟩
theorem J.snIc {host : String} {f : Option Int32} {k : Int32 → Option β} (C : CX X g cc own ret nL R0) (hM : MSs y cc' nL' ret' n) (hlk : Cond.methodLinkNest own idx y host ∈ lw_tbl) (hC : ∀ l, Ct l y cc' nL' ret' rm g aI (pK S) As S f) (hR : rm.frames + 1 ≤ R0.frames ∧ 8 + (nL' + 11) + rm.locals ≤ R0.locals) (hn : As.length = n) (hstk : stk = As.reverse ++ rest) (hcat : cats rest) (hlen : rest.length ≤ 8) (hdg : decode cc pc = .ok (.invokestatic idx, 3)) (kk : ∀ r : Int32, J X g Q (cfC n0) (pc + 3) lv (.int r :: rest) S (k r)) (hrm : rm.cells = 0 ∧ rm.slots = 0 := by exact ⟨rfl, rfl⟩) : J X g Q (cfC n0) pc lv stk S (chk (rok n0 R0.cells R0.slots S.2.2) (bnd f k)) := by
  refine J.ck (fun hok => ?_)
  have h2 := rok_le hok
  exact J.callSN C hM.1 hM.2 hlk hC hn hstk hcat hlen hR (by rw [hrm.1, hrm.2]; exact h2) (fun b _ => by rw [hrm.1, hrm.2]; exact ⟨Nat.le_refl _, Nat.le_refl _⟩) hdg kk
theorem J.ctor {ci a : Nat} {f : Option St} {k : St → Option β} (C : CX X g cc own ret nL R0) (hM : MSi ci y cc' nL' n) (hlk : Cond.methodLink own idx y ∈ lw_tbl) (hC : ∀ l, Ct l y cc' nL' Option.none rm g aU pU (rv g a :: As) S f) (hR : rm.frames + 1 ≤ R0.frames ∧ 8 + (nL' + 11) + rm.locals ≤ R0.locals) (hn : As.length = n) (hstk : stk = As.reverse ++ rv g a :: rest) (hcat : cats rest) (hlen : rest.length ≤ 8) (hdg : decode cc pc = .ok (.invokespecial idx, 3)) (kk : ∀ S1 : St, J X g Q (cfC n0) (pc + 3) lv rest S1 (k S1)) : J X g Q (cfC n0) pc lv stk S (chk (okc S ci a) (chk (rok2 n0 R0.cells R0.slots rm.cells rm.slots S.2.2) (bnd f fun S1 => chk (S1.2.2 = S.2.2 + rm.cells ∧ slT S1.2.2 = slT S.2.2 + rm.slots) (k S1)))) := by
  obtain ⟨r, m1, m2, m3, m4⟩ := hM
  have key : rok2 n0 R0.cells R0.slots rm.cells rm.slots S.2.2 → J X g Q (cfC n0) pc lv stk S (chk (okc S ci a) (bnd (bnd f fun S1 => if S1.2.2 = S.2.2 + rm.cells ∧ slT S1.2.2 = slT S.2.2 + rm.slots then some S1 else Option.none) k)) := by
    rintro ⟨o1, o2, o3, o4⟩
    refine J.callI (an' := aU) (ps' := pU) C m1 m2 m3 m4 hlk (fun l b hb => ?_) hn hstk hcat hlen hR (by constructor <;> simp only [cfC] <;> omega) (fun b hb => ?_) hdg kk
    · obtain ⟨b1, h1, h2⟩ := bnd_some hb
      by_cases hc : b1.2.2 = S.2.2 + rm.cells ∧ slT b1.2.2 = slT S.2.2 + rm.slots
      · rw [if_pos hc] at h2
        cases h2
        exact hC l _ h1
      · rw [if_neg hc] at h2
        cases h2
    · obtain ⟨b1, h1, h2⟩ := bnd_some hb
      by_cases hc : b1.2.2 = S.2.2 + rm.cells ∧ slT b1.2.2 = slT S.2.2 + rm.slots
      · rw [if_pos hc] at h2
        cases h2
        show S.2.2 - n0 + rm.cells ≤ b.2.2 - n0 ∧ slT S.2.2 - slT n0 + rm.slots ≤ slT b.2.2 - slT n0
        omega
      · rw [if_neg hc] at h2
        cases h2
  by_cases h : rok2 n0 R0.cells R0.slots rm.cells rm.slots S.2.2
  · have e : (bnd (bnd f fun S1 => if S1.2.2 = S.2.2 + rm.cells ∧ slT S1.2.2 = slT S.2.2 + rm.slots then some S1 else Option.none) k) = chk (rok2 n0 R0.cells R0.slots rm.cells rm.slots S.2.2) (bnd f fun S1 => chk (S1.2.2 = S.2.2 + rm.cells ∧ slT S1.2.2 = slT S.2.2 + rm.slots) (k S1)) := by
      unfold chk
      rw [if_pos h]
      cases f with
      | none => rfl
      | some s1 =>
        show bnd (if _ then some s1 else Option.none) k = if _ then k s1 else Option.none
        by_cases hc : s1.2.2 = S.2.2 + rm.cells ∧ slT s1.2.2 = slT S.2.2 + rm.slots
        · rw [if_pos hc, if_pos hc]; rfl
        · rw [if_neg hc, if_neg hc]; rfl
    rw [← e]
    exact key h
  · refine J.ck (fun _ => ?_)
    exact J.ck (fun q => absurd q h)
theorem J.ctorN {host : String} {ci a : Nat} {f : Option St} {k : St → Option β} (C : CX X g cc own ret nL R0) (hM : MSi ci y cc' nL' n) (hlk : Cond.methodLinkNest own idx y host ∈ lw_tbl) (hC : ∀ l, Ct l y cc' nL' Option.none rm g aU pU (rv g a :: As) S f) (hR : rm.frames + 1 ≤ R0.frames ∧ 8 + (nL' + 11) + rm.locals ≤ R0.locals) (hn : As.length = n) (hstk : stk = As.reverse ++ rv g a :: rest) (hcat : cats rest) (hlen : rest.length ≤ 8) (hdg : decode cc pc = .ok (.invokespecial idx, 3)) (kk : ∀ S1 : St, J X g Q (cfC n0) (pc + 3) lv rest S1 (k S1)) : J X g Q (cfC n0) pc lv stk S (chk (okc S ci a) (chk (rok2 n0 R0.cells R0.slots rm.cells rm.slots S.2.2) (bnd f fun S1 => chk (S1.2.2 = S.2.2 + rm.cells ∧ slT S1.2.2 = slT S.2.2 + rm.slots) (k S1)))) := by
  obtain ⟨r, m1, m2, m3, m4⟩ := hM
  have key : rok2 n0 R0.cells R0.slots rm.cells rm.slots S.2.2 → J X g Q (cfC n0) pc lv stk S (chk (okc S ci a) (bnd (bnd f fun S1 => if S1.2.2 = S.2.2 + rm.cells ∧ slT S1.2.2 = slT S.2.2 + rm.slots then some S1 else Option.none) k)) := by
    rintro ⟨o1, o2, o3, o4⟩
    refine J.callIN (an' := aU) (ps' := pU) C m1 m2 m3 m4 hlk (fun l b hb => ?_) hn hstk hcat hlen hR (by constructor <;> simp only [cfC] <;> omega) (fun b hb => ?_) hdg kk
    · obtain ⟨b1, h1, h2⟩ := bnd_some hb
      by_cases hc : b1.2.2 = S.2.2 + rm.cells ∧ slT b1.2.2 = slT S.2.2 + rm.slots
      · rw [if_pos hc] at h2
        cases h2
        exact hC l _ h1
      · rw [if_neg hc] at h2
        cases h2
    · obtain ⟨b1, h1, h2⟩ := bnd_some hb
      by_cases hc : b1.2.2 = S.2.2 + rm.cells ∧ slT b1.2.2 = slT S.2.2 + rm.slots
      · rw [if_pos hc] at h2
        cases h2
        show S.2.2 - n0 + rm.cells ≤ b.2.2 - n0 ∧ slT S.2.2 - slT n0 + rm.slots ≤ slT b.2.2 - slT n0
        omega
      · rw [if_neg hc] at h2
        cases h2
  by_cases h : rok2 n0 R0.cells R0.slots rm.cells rm.slots S.2.2
  · have e : (bnd (bnd f fun S1 => if S1.2.2 = S.2.2 + rm.cells ∧ slT S1.2.2 = slT S.2.2 + rm.slots then some S1 else Option.none) k) = chk (rok2 n0 R0.cells R0.slots rm.cells rm.slots S.2.2) (bnd f fun S1 => chk (S1.2.2 = S.2.2 + rm.cells ∧ slT S1.2.2 = slT S.2.2 + rm.slots) (k S1)) := by
      unfold chk
      rw [if_pos h]
      cases f with
      | none => rfl
      | some s1 =>
        show bnd (if _ then some s1 else Option.none) k = if _ then k s1 else Option.none
        by_cases hc : s1.2.2 = S.2.2 + rm.cells ∧ slT s1.2.2 = slT S.2.2 + rm.slots
        · rw [if_pos hc, if_pos hc]; rfl
        · rw [if_neg hc, if_neg hc]; rfl
    rw [← e]
    exact key h
  · refine J.ck (fun _ => ?_)
    exact J.ck (fun q => absurd q h)
end JR6
end
section
theorem kb_10 : (Int8.ofInt (10)).toInt32 = (10 : Int32) := by decide
theorem kb_100 : (Int8.ofInt (100)).toInt32 = (100 : Int32) := by decide
theorem kb_101 : (Int8.ofInt (101)).toInt32 = (101 : Int32) := by decide
theorem kb_103 : (Int8.ofInt (103)).toInt32 = (103 : Int32) := by decide
theorem kb_115 : (Int8.ofInt (115)).toInt32 = (115 : Int32) := by decide
theorem kb_116 : (Int8.ofInt (116)).toInt32 = (116 : Int32) := by decide
theorem kb_117 : (Int8.ofInt (117)).toInt32 = (117 : Int32) := by decide
theorem kb_12 : (Int8.ofInt (12)).toInt32 = (12 : Int32) := by decide
theorem kb_126 : (Int8.ofInt (126)).toInt32 = (126 : Int32) := by decide
theorem kb_15 : (Int8.ofInt (15)).toInt32 = (15 : Int32) := by decide
theorem kb_16 : (Int8.ofInt (16)).toInt32 = (16 : Int32) := by decide
theorem kb_17 : (Int8.ofInt (17)).toInt32 = (17 : Int32) := by decide
theorem kb_20 : (Int8.ofInt (20)).toInt32 = (20 : Int32) := by decide
theorem kb_21 : (Int8.ofInt (21)).toInt32 = (21 : Int32) := by decide
theorem kb_32 : (Int8.ofInt (32)).toInt32 = (32 : Int32) := by decide
theorem kb_33 : (Int8.ofInt (33)).toInt32 = (33 : Int32) := by decide
theorem kb_34 : (Int8.ofInt (34)).toInt32 = (34 : Int32) := by decide
theorem kb_35 : (Int8.ofInt (35)).toInt32 = (35 : Int32) := by decide
theorem kb_36 : (Int8.ofInt (36)).toInt32 = (36 : Int32) := by decide
theorem kb_37 : (Int8.ofInt (37)).toInt32 = (37 : Int32) := by decide
theorem kb_40 : (Int8.ofInt (40)).toInt32 = (40 : Int32) := by decide
theorem kb_41 : (Int8.ofInt (41)).toInt32 = (41 : Int32) := by decide
theorem kb_44 : (Int8.ofInt (44)).toInt32 = (44 : Int32) := by decide
theorem kb_45 : (Int8.ofInt (45)).toInt32 = (45 : Int32) := by decide
theorem kb_48 : (Int8.ofInt (48)).toInt32 = (48 : Int32) := by decide
theorem kb_49 : (Int8.ofInt (49)).toInt32 = (49 : Int32) := by decide
theorem kb_50 : (Int8.ofInt (50)).toInt32 = (50 : Int32) := by decide
theorem kb_57 : (Int8.ofInt (57)).toInt32 = (57 : Int32) := by decide
theorem kb_59 : (Int8.ofInt (59)).toInt32 = (59 : Int32) := by decide
theorem kb_6 : (Int8.ofInt (6)).toInt32 = (6 : Int32) := by decide
theorem kb_63 : (Int8.ofInt (63)).toInt32 = (63 : Int32) := by decide
theorem kb_7 : (Int8.ofInt (7)).toInt32 = (7 : Int32) := by decide
theorem kb_8 : (Int8.ofInt (8)).toInt32 = (8 : Int32) := by decide
theorem kb_80 : (Int8.ofInt (80)).toInt32 = (80 : Int32) := by decide
theorem kb_9 : (Int8.ofInt (9)).toInt32 = (9 : Int32) := by decide
theorem kb_98 : (Int8.ofInt (98)).toInt32 = (98 : Int32) := by decide
theorem kb_m100 : (Int8.ofInt (-100)).toInt32 = (-100 : Int32) := by decide
theorem kb_m8 : (Int8.ofInt (-8)).toInt32 = (-8 : Int32) := by decide
theorem ki_0 : Int32.ofInt (0) = (0 : Int32) := by decide
theorem ki_1 : Int32.ofInt (1) = (1 : Int32) := by decide
theorem ki_10 : Int32.ofInt (10) = (10 : Int32) := by decide
theorem ki_100 : Int32.ofInt (100) = (100 : Int32) := by decide
theorem ki_2 : Int32.ofInt (2) = (2 : Int32) := by decide
theorem ki_3 : Int32.ofInt (3) = (3 : Int32) := by decide
theorem ki_4 : Int32.ofInt (4) = (4 : Int32) := by decide
theorem ki_5 : Int32.ofInt (5) = (5 : Int32) := by decide
theorem ki_m1 : Int32.ofInt (-1) = (-1 : Int32) := by decide
theorem ks_160 : (Int16.ofInt (160)).toInt32 = (160 : Int32) := by decide
theorem ks_1600 : (Int16.ofInt (1600)).toInt32 = (1600 : Int32) := by decide
theorem ks_162 : (Int16.ofInt (162)).toInt32 = (162 : Int32) := by decide
theorem ks_200 : (Int16.ofInt (200)).toInt32 = (200 : Int32) := by decide
theorem ks_20000 : (Int16.ofInt (20000)).toInt32 = (20000 : Int32) := by decide
theorem ks_2400 : (Int16.ofInt (2400)).toInt32 = (2400 : Int32) := by decide
theorem ks_2401 : (Int16.ofInt (2401)).toInt32 = (2401 : Int32) := by decide
theorem ks_255 : (Int16.ofInt (255)).toInt32 = (255 : Int32) := by decide
theorem ks_2601 : (Int16.ofInt (2601)).toInt32 = (2601 : Int32) := by decide
theorem ks_3468 : (Int16.ofInt (3468)).toInt32 = (3468 : Int32) := by decide
theorem ks_847 : (Int16.ofInt (847)).toInt32 = (847 : Int32) := by decide
theorem ks_857 : (Int16.ofInt (857)).toInt32 = (857 : Int32) := by decide
theorem ks_867 : (Int16.ofInt (867)).toInt32 = (867 : Int32) := by decide
theorem ks_m1000 : (Int16.ofInt (-1000)).toInt32 = (-1000 : Int32) := by decide
theorem ks_m200 : (Int16.ofInt (-200)).toInt32 = (-200 : Int32) := by decide
theorem ks_m20000 : (Int16.ofInt (-20000)).toInt32 = (-20000 : Int32) := by decide
theorem w_oc : Cond.code Lib.objectInit ⟨#[0xb1]⟩ 1 none ∈ lw_tbl := List.mem_of_getElem? (i := 71) (by decide +kernel)
theorem w_oi : Cond.instanceMethod Lib.objectInit ∈ lw_tbl := List.mem_of_getElem? (i := 70) (by decide +kernel)
theorem wa_char : Cond.arrayClass .char ∈ lw_tbl := List.mem_of_getElem? (i := 214) (by decide +kernel)
theorem wa_int : Cond.arrayClass .int ∈ lw_tbl := List.mem_of_getElem? (i := 119) (by decide +kernel)
theorem wc_RJ6_265 : Cond.constant RJ6 265 (1431655765) ∈ lw_tbl := List.mem_of_getElem? (i := 436) (by decide +kernel)
theorem wc_RJ6_266 : Cond.constant RJ6 266 (858993459) ∈ lw_tbl := List.mem_of_getElem? (i := 437) (by decide +kernel)
theorem wc_RJ6_267 : Cond.constant RJ6 267 (252645135) ∈ lw_tbl := List.mem_of_getElem? (i := 438) (by decide +kernel)
theorem wc_RX1_104 : Cond.constant RX1 104 (65535) ∈ lw_tbl := List.mem_of_getElem? (i := 696) (by decide +kernel)
theorem wc_RX6_54 : Cond.constant RX6 54 (-10000004) ∈ lw_tbl := List.mem_of_getElem? (i := 589) (by decide +kernel)
theorem wc_RX7_163 : Cond.constant RX7 163 (-10000004) ∈ lw_tbl := List.mem_of_getElem? (i := 541) (by decide +kernel)
theorem wc_RX7_237 : Cond.constant RX7 237 (2097151) ∈ lw_tbl := List.mem_of_getElem? (i := 721) (by decide +kernel)
theorem wc_RX7_60 : Cond.constant RX7 60 (-10000001) ∈ lw_tbl := List.mem_of_getElem? (i := 345) (by decide +kernel)
theorem wc_RX7_74 : Cond.constant RX7 74 (-10000002) ∈ lw_tbl := List.mem_of_getElem? (i := 351) (by decide +kernel)
theorem wc_RX7_93 : Cond.constant RX7 93 (-10000003) ∈ lw_tbl := List.mem_of_getElem? (i := 399) (by decide +kernel)
theorem wc_RX8_120 : Cond.constant RX8 120 (-10000004) ∈ lw_tbl := List.mem_of_getElem? (i := 1006) (by decide +kernel)
theorem wc_RX8_44 : Cond.constant RX8 44 (-10000001) ∈ lw_tbl := List.mem_of_getElem? (i := 893) (by decide +kernel)
theorem wc_RX8_45 : Cond.constant RX8 45 (-10000002) ∈ lw_tbl := List.mem_of_getElem? (i := 894) (by decide +kernel)
theorem wc_RX8_49 : Cond.constant RX8 49 (-1000000) ∈ lw_tbl := List.mem_of_getElem? (i := 909) (by decide +kernel)
theorem wc_RX8_54 : Cond.constant RX8 54 (-10000003) ∈ lw_tbl := List.mem_of_getElem? (i := 910) (by decide +kernel)
theorem wd_J6_bitCount_0f7a4 : Cond.code yJ6_bitCount_0f7a4 cJ6_bitCount_0f7a4 1 (some .int) ∈ lw_tbl := List.mem_of_getElem? (i := 435) (by decide +kernel)
theorem wd_J9_abs_0f7a4 : Cond.code yJ9_abs_0f7a4 cJ9_abs_0f7a4 1 (some .int) ∈ lw_tbl := List.mem_of_getElem? (i := 536) (by decide +kernel)
theorem wd_J9_floorDiv_7cf53 : Cond.code yJ9_floorDiv_7cf53 cJ9_floorDiv_7cf53 3 (some .int) ∈ lw_tbl := List.mem_of_getElem? (i := 462) (by decide +kernel)
theorem wd_J9_max_7cf53 : Cond.code yJ9_max_7cf53 cJ9_max_7cf53 2 (some .int) ∈ lw_tbl := List.mem_of_getElem? (i := 468) (by decide +kernel)
theorem wd_J9_min_7cf53 : Cond.code yJ9_min_7cf53 cJ9_min_7cf53 2 (some .int) ∈ lw_tbl := List.mem_of_getElem? (i := 465) (by decide +kernel)
theorem wd_X0_become : Cond.code yX0_become cX0_become 3 none ∈ lw_tbl := List.mem_of_getElem? (i := 383) (by decide +kernel)
theorem wd_X0_init : Cond.code yX0_init cX0_init 1 none ∈ lw_tbl := List.mem_of_getElem? (i := 123) (by decide +kernel)
theorem wd_X0_keepRow : Cond.code yX0_keepRow cX0_keepRow 7 none ∈ lw_tbl := List.mem_of_getElem? (i := 509) (by decide +kernel)
theorem wd_X0_pixelAt : Cond.code yX0_pixelAt cX0_pixelAt 3 (some .int) ∈ lw_tbl := List.mem_of_getElem? (i := 532) (by decide +kernel)
theorem wd_X1_addDemand : Cond.code yX1_addDemand cX1_addDemand 11 none ∈ lw_tbl := List.mem_of_getElem? (i := 692) (by decide +kernel)
theorem wd_X1_answer : Cond.code yX1_answer cX1_answer 2 (some .int) ∈ lw_tbl := List.mem_of_getElem? (i := 716) (by decide +kernel)
theorem wd_X1_gatherDemands : Cond.code yX1_gatherDemands cX1_gatherDemands 6 none ∈ lw_tbl := List.mem_of_getElem? (i := 685) (by decide +kernel)
theorem wd_X1_init : Cond.code yX1_init cX1_init 1 none ∈ lw_tbl := List.mem_of_getElem? (i := 275) (by decide +kernel)
theorem wd_X1_isVain : Cond.code yX1_isVain cX1_isVain 1 (some .boolean) ∈ lw_tbl := List.mem_of_getElem? (i := 712) (by decide +kernel)
theorem wd_X1_keepMotion : Cond.code yX1_keepMotion cX1_keepMotion 3 none ∈ lw_tbl := List.mem_of_getElem? (i := 708) (by decide +kernel)
theorem wd_X1_meetsDemands : Cond.code yX1_meetsDemands cX1_meetsDemands 6 (some .boolean) ∈ lw_tbl := List.mem_of_getElem? (i := 703) (by decide +kernel)
theorem wd_X1_run : Cond.code yX1_run cX1_run 6 none ∈ lw_tbl := List.mem_of_getElem? (i := 680) (by decide +kernel)
theorem wd_X2_init : Cond.code yX2_init cX2_init 1 none ∈ lw_tbl := List.mem_of_getElem? (i := 195) (by decide +kernel)
theorem wd_X2_isDigit : Cond.code yX2_isDigit cX2_isDigit 1 (some .boolean) ∈ lw_tbl := List.mem_of_getElem? (i := 789) (by decide +kernel)
theorem wd_X2_numberAt : Cond.code yX2_numberAt cX2_numberAt 2 (some .int) ∈ lw_tbl := List.mem_of_getElem? (i := 801) (by decide +kernel)
theorem wd_X2_numbersBehind : Cond.code yX2_numbersBehind cX2_numbersBehind 1 (some .int) ∈ lw_tbl := List.mem_of_getElem? (i := 778) (by decide +kernel)
theorem wd_X2_perform : Cond.code yX2_perform cX2_perform 3 none ∈ lw_tbl := List.mem_of_getElem? (i := 819) (by decide +kernel)
theorem wd_X2_read : Cond.code yX2_read cX2_read 5 none ∈ lw_tbl := List.mem_of_getElem? (i := 771) (by decide +kernel)
theorem wd_X2_readNumber : Cond.code yX2_readNumber cX2_readNumber 6 none ∈ lw_tbl := List.mem_of_getElem? (i := 786) (by decide +kernel)
theorem wd_X2_readSign : Cond.code yX2_readSign cX2_readSign 3 none ∈ lw_tbl := List.mem_of_getElem? (i := 782) (by decide +kernel)
theorem wd_X2_wrongNumber : Cond.code yX2_wrongNumber cX2_wrongNumber 1 (some .int) ∈ lw_tbl := List.mem_of_getElem? (i := 797) (by decide +kernel)
theorem wd_X3_addThing : Cond.code yX3_addThing cX3_addThing 8 none ∈ lw_tbl := List.mem_of_getElem? (i := 403) (by decide +kernel)
theorem wd_X3_become : Cond.code yX3_become cX3_become 3 none ∈ lw_tbl := List.mem_of_getElem? (i := 359) (by decide +kernel)
theorem wd_X3_becomeInFrames : Cond.code yX3_becomeInFrames cX3_becomeInFrames 5 none ∈ lw_tbl := List.mem_of_getElem? (i := 375) (by decide +kernel)
theorem wd_X3_becomeInThings : Cond.code yX3_becomeInThings cX3_becomeInThings 5 none ∈ lw_tbl := List.mem_of_getElem? (i := 363) (by decide +kernel)
theorem wd_X3_changeSetting : Cond.code yX3_changeSetting cX3_changeSetting 3 none ∈ lw_tbl := List.mem_of_getElem? (i := 391) (by decide +kernel)
theorem wd_X3_dropFrame : Cond.code yX3_dropFrame cX3_dropFrame 4 none ∈ lw_tbl := List.mem_of_getElem? (i := 495) (by decide +kernel)
theorem wd_X3_edgesIn : Cond.code yX3_edgesIn cX3_edgesIn 7 (some .int) ∈ lw_tbl := List.mem_of_getElem? (i := 528) (by decide +kernel)
theorem wd_X3_frameAt : Cond.code yX3_frameAt cX3_frameAt 2 (some (.object "RowVotes$Frame")) ∈ lw_tbl := List.mem_of_getElem? (i := 379) (by decide +kernel)
theorem wd_X3_init : Cond.code yX3_init cX3_init 2 none ∈ lw_tbl := List.mem_of_getElem? (i := 76) (by decide +kernel)
theorem wd_X3_judgeRows : Cond.code yX3_judgeRows cX3_judgeRows 4 none ∈ lw_tbl := List.mem_of_getElem? (i := 661) (by decide +kernel)
theorem wd_X3_paint : Cond.code yX3_paint cX3_paint 10 none ∈ lw_tbl := List.mem_of_getElem? (i := 450) (by decide +kernel)
theorem wd_X3_paintOver : Cond.code yX3_paintOver cX3_paintOver 5 none ∈ lw_tbl := List.mem_of_getElem? (i := 472) (by decide +kernel)
theorem wd_X3_percentAt : Cond.code yX3_percentAt cX3_percentAt 2 (some .int) ∈ lw_tbl := List.mem_of_getElem? (i := 477) (by decide +kernel)
theorem wd_X3_photograph : Cond.code yX3_photograph cX3_photograph 7 none ∈ lw_tbl := List.mem_of_getElem? (i := 499) (by decide +kernel)
theorem wd_X3_setting : Cond.code yX3_setting cX3_setting 2 (some .int) ∈ lw_tbl := List.mem_of_getElem? (i := 387) (by decide +kernel)
theorem wd_X3_takeFrame : Cond.code yX3_takeFrame cX3_takeFrame 3 none ∈ lw_tbl := List.mem_of_getElem? (i := 491) (by decide +kernel)
theorem wd_X3_thingAt : Cond.code yX3_thingAt cX3_thingAt 2 (some (.object "RowVotes$Thing")) ∈ lw_tbl := List.mem_of_getElem? (i := 367) (by decide +kernel)
theorem wd_X3_timeOfRow : Cond.code yX3_timeOfRow cX3_timeOfRow 3 (some .int) ∈ lw_tbl := List.mem_of_getElem? (i := 503) (by decide +kernel)
theorem wd_X3_weightOf : Cond.code yX3_weightOf cX3_weightOf 2 (some .int) ∈ lw_tbl := List.mem_of_getElem? (i := 593) (by decide +kernel)
theorem wd_X4_append : Cond.code yX4_append cX4_append 2 (some .boolean) ∈ lw_tbl := List.mem_of_getElem? (i := 755) (by decide +kernel)
theorem wd_X4_examine : Cond.code yX4_examine cX4_examine 3 none ∈ lw_tbl := List.mem_of_getElem? (i := 767) (by decide +kernel)
theorem wd_X4_examineOrder : Cond.code yX4_examineOrder cX4_examineOrder 1 none ∈ lw_tbl := List.mem_of_getElem? (i := 793) (by decide +kernel)
theorem wd_X4_init : Cond.code yX4_init cX4_init 1 none ∈ lw_tbl := List.mem_of_getElem? (i := 189) (by decide +kernel)
theorem wd_X4_isPossibleThen : Cond.code yX4_isPossibleThen cX4_isPossibleThen 3 (some .boolean) ∈ lw_tbl := List.mem_of_getElem? (i := 808) (by decide +kernel)
theorem wd_X4_signAt : Cond.code yX4_signAt cX4_signAt 2 (some .char) ∈ lw_tbl := List.mem_of_getElem? (i := 775) (by decide +kernel)
theorem wd_X5_become : Cond.code yX5_become cX5_become 2 none ∈ lw_tbl := List.mem_of_getElem? (i := 371) (by decide +kernel)
theorem wd_X5_changeSpeed : Cond.code yX5_changeSpeed cX5_changeSpeed 3 none ∈ lw_tbl := List.mem_of_getElem? (i := 412) (by decide +kernel)
theorem wd_X5_init : Cond.code yX5_init cX5_init 1 none ∈ lw_tbl := List.mem_of_getElem? (i := 90) (by decide +kernel)
theorem wd_X5_isIn : Cond.code yX5_isIn cX5_isIn 2 (some .boolean) ∈ lw_tbl := List.mem_of_getElem? (i := 455) (by decide +kernel)
theorem wd_X5_numberOf : Cond.code yX5_numberOf cX5_numberOf 2 (some .int) ∈ lw_tbl := List.mem_of_getElem? (i := 425) (by decide +kernel)
theorem wd_X5_positionAt : Cond.code yX5_positionAt cX5_positionAt 2 (some .int) ∈ lw_tbl := List.mem_of_getElem? (i := 416) (by decide +kernel)
theorem wd_X6_countVotes : Cond.code yX6_countVotes cX6_countVotes 4 none ∈ lw_tbl := List.mem_of_getElem? (i := 588) (by decide +kernel)
theorem wd_X6_init : Cond.code yX6_init cX6_init 1 none ∈ lw_tbl := List.mem_of_getElem? (i := 256) (by decide +kernel)
theorem wd_X6_mostVotes : Cond.code yX6_mostVotes cX6_mostVotes 3 (some .int) ∈ lw_tbl := List.mem_of_getElem? (i := 610) (by decide +kernel)
theorem wd_X6_readEdges : Cond.code yX6_readEdges cX6_readEdges 6 none ∈ lw_tbl := List.mem_of_getElem? (i := 570) (by decide +kernel)
theorem wd_X6_readFirst : Cond.code yX6_readFirst cX6_readFirst 3 none ∈ lw_tbl := List.mem_of_getElem? (i := 566) (by decide +kernel)
theorem wd_X6_readSecond : Cond.code yX6_readSecond cX6_readSecond 3 none ∈ lw_tbl := List.mem_of_getElem? (i := 576) (by decide +kernel)
theorem wd_X6_told : Cond.code yX6_told cX6_told 5 (some .int) ∈ lw_tbl := List.mem_of_getElem? (i := 606) (by decide +kernel)
theorem wd_X6_voteOf : Cond.code yX6_voteOf cX6_voteOf 2 (some .int) ∈ lw_tbl := List.mem_of_getElem? (i := 598) (by decide +kernel)
theorem wd_X6_voteOnShift : Cond.code yX6_voteOnShift cX6_voteOnShift 2 none ∈ lw_tbl := List.mem_of_getElem? (i := 580) (by decide +kernel)
theorem wd_X6_voteOnSlant : Cond.code yX6_voteOnSlant cX6_voteOnSlant 4 none ∈ lw_tbl := List.mem_of_getElem? (i := 640) (by decide +kernel)
theorem wd_X6_votersAtAll : Cond.code yX6_votersAtAll cX6_votersAtAll 1 (some .int) ∈ lw_tbl := List.mem_of_getElem? (i := 627) (by decide +kernel)
theorem wd_X6_votersFor : Cond.code yX6_votersFor cX6_votersFor 4 (some .int) ∈ lw_tbl := List.mem_of_getElem? (i := 619) (by decide +kernel)
theorem wd_X6_weigh : Cond.code yX6_weigh cX6_weigh 2 none ∈ lw_tbl := List.mem_of_getElem? (i := 653) (by decide +kernel)
theorem wd_X7_bestShift : Cond.code yX7_bestShift cX7_bestShift 7 (some .int) ∈ lw_tbl := List.mem_of_getElem? (i := 584) (by decide +kernel)
theorem wd_X7_columnsCovered : Cond.code yX7_columnsCovered cX7_columnsCovered 4 (some .int) ∈ lw_tbl := List.mem_of_getElem? (i := 459) (by decide +kernel)
theorem wd_X7_darkPeriods : Cond.code yX7_darkPeriods cX7_darkPeriods 4 (some .int) ∈ lw_tbl := List.mem_of_getElem? (i := 730) (by decide +kernel)
theorem wd_X7_dimmed : Cond.code yX7_dimmed cX7_dimmed 2 (some .int) ∈ lw_tbl := List.mem_of_getElem? (i := 483) (by decide +kernel)
theorem wd_X7_edgeCountOf : Cond.code yX7_edgeCountOf cX7_edgeCountOf 4 (some .int) ∈ lw_tbl := List.mem_of_getElem? (i := 524) (by decide +kernel)
theorem wd_X7_holds : Cond.code yX7_holds cX7_holds 2 (some .boolean) ∈ lw_tbl := List.mem_of_getElem? (i := 432) (by decide +kernel)
theorem wd_X7_isDark : Cond.code yX7_isDark cX7_isDark 3 (some .boolean) ∈ lw_tbl := List.mem_of_getElem? (i := 480) (by decide +kernel)
theorem wd_X7_isPair : Cond.code yX7_isPair cX7_isPair 3 (some .boolean) ∈ lw_tbl := List.mem_of_getElem? (i := 558) (by decide +kernel)
theorem wd_X7_isPlace : Cond.code yX7_isPlace cX7_isPlace 3 (some .boolean) ∈ lw_tbl := List.mem_of_getElem? (i := 446) (by decide +kernel)
theorem wd_X7_isWithin : Cond.code yX7_isWithin cX7_isWithin 3 (some .boolean) ∈ lw_tbl := List.mem_of_getElem? (i := 344) (by decide +kernel)
theorem wd_X7_numberIn : Cond.code yX7_numberIn cX7_numberIn 2 (some .int) ∈ lw_tbl := List.mem_of_getElem? (i := 86) (by decide +kernel)
theorem wd_X7_periodsFitting : Cond.code yX7_periodsFitting cX7_periodsFitting 7 (some .int) ∈ lw_tbl := List.mem_of_getElem? (i := 725) (by decide +kernel)
theorem wd_X7_recordState : Cond.code yX7_recordState cX7_recordState 3 none ∈ lw_tbl := List.mem_of_getElem? (i := 355) (by decide +kernel)
theorem wd_X7_rowFits : Cond.code yX7_rowFits cX7_rowFits 5 (some .boolean) ∈ lw_tbl := List.mem_of_getElem? (i := 735) (by decide +kernel)
theorem wd_X7_voteOn : Cond.code yX7_voteOn cX7_voteOn 3 none ∈ lw_tbl := List.mem_of_getElem? (i := 562) (by decide +kernel)
theorem wd_X7_wrongOfThing : Cond.code yX7_wrongOfThing cX7_wrongOfThing 6 (some .int) ∈ lw_tbl := List.mem_of_getElem? (i := 398) (by decide +kernel)
theorem wd_X8_adds : Cond.code yX8_adds cX8_adds 8 none ∈ lw_tbl := List.mem_of_getElem? (i := 913) (by decide +kernel)
theorem wd_X8_agreeing : Cond.code yX8_agreeing cX8_agreeing 5 (some .int) ∈ lw_tbl := List.mem_of_getElem? (i := 1032) (by decide +kernel)
theorem wd_X8_allFit : Cond.code yX8_allFit cX8_allFit 4 (some .boolean) ∈ lw_tbl := List.mem_of_getElem? (i := 1119) (by decide +kernel)
theorem wd_X8_areFrames : Cond.code yX8_areFrames cX8_areFrames 3 (some .boolean) ∈ lw_tbl := List.mem_of_getElem? (i := 1022) (by decide +kernel)
theorem wd_X8_bits : Cond.code yX8_bits cX8_bits 3 (some .int) ∈ lw_tbl := List.mem_of_getElem? (i := 935) (by decide +kernel)
theorem wd_X8_can : Cond.code yX8_can cX8_can 3 (some .boolean) ∈ lw_tbl := List.mem_of_getElem? (i := 1182) (by decide +kernel)
theorem wd_X8_copies : Cond.code yX8_copies cX8_copies 5 none ∈ lw_tbl := List.mem_of_getElem? (i := 901) (by decide +kernel)
theorem wd_X8_counts : Cond.code yX8_counts cX8_counts 3 none ∈ lw_tbl := List.mem_of_getElem? (i := 1055) (by decide +kernel)
theorem wd_X8_covers : Cond.code yX8_covers cX8_covers 8 (some .boolean) ∈ lw_tbl := List.mem_of_getElem? (i := 953) (by decide +kernel)
theorem wd_X8_does : Cond.code yX8_does cX8_does 3 none ∈ lw_tbl := List.mem_of_getElem? (i := 1186) (by decide +kernel)
theorem wd_X8_done : Cond.code yX8_done cX8_done 5 (some .int) ∈ lw_tbl := List.mem_of_getElem? (i := 1155) (by decide +kernel)
theorem wd_X8_drops : Cond.code yX8_drops cX8_drops 3 none ∈ lw_tbl := List.mem_of_getElem? (i := 966) (by decide +kernel)
theorem wd_X8_edgesAt : Cond.code yX8_edgesAt cX8_edgesAt 6 (some .int) ∈ lw_tbl := List.mem_of_getElem? (i := 1107) (by decide +kernel)
theorem wd_X8_edgesIn : Cond.code yX8_edgesIn cX8_edgesIn 5 (some .int) ∈ lw_tbl := List.mem_of_getElem? (i := 986) (by decide +kernel)
theorem wd_X8_faults : Cond.code yX8_faults cX8_faults 4 none ∈ lw_tbl := List.mem_of_getElem? (i := 1159) (by decide +kernel)
theorem wd_X8_form : Cond.code yX8_form cX8_form 3 (some .int) ∈ lw_tbl := List.mem_of_getElem? (i := 1163) (by decide +kernel)
theorem wd_X8_frameValue : Cond.code yX8_frameValue cX8_frameValue 3 (some .int) ∈ lw_tbl := List.mem_of_getElem? (i := 982) (by decide +kernel)
theorem wd_X8_has : Cond.code yX8_has cX8_has 2 (some .boolean) ∈ lw_tbl := List.mem_of_getElem? (i := 997) (by decide +kernel)
theorem wd_X8_in : Cond.code yX8_in cX8_in 3 (some .boolean) ∈ lw_tbl := List.mem_of_getElem? (i := 892) (by decide +kernel)
theorem wd_X8_isColumn : Cond.code yX8_isColumn cX8_isColumn 2 (some .boolean) ∈ lw_tbl := List.mem_of_getElem? (i := 947) (by decide +kernel)
theorem wd_X8_isDark : Cond.code yX8_isDark cX8_isDark 2 (some .boolean) ∈ lw_tbl := List.mem_of_getElem? (i := 956) (by decide +kernel)
theorem wd_X8_isEdge : Cond.code yX8_isEdge cX8_isEdge 5 (some .boolean) ∈ lw_tbl := List.mem_of_getElem? (i := 990) (by decide +kernel)
theorem wd_X8_isFrame : Cond.code yX8_isFrame cX8_isFrame 2 (some .boolean) ∈ lw_tbl := List.mem_of_getElem? (i := 974) (by decide +kernel)
theorem wd_X8_isRow : Cond.code yX8_isRow cX8_isRow 2 (some .boolean) ∈ lw_tbl := List.mem_of_getElem? (i := 943) (by decide +kernel)
theorem wd_X8_isSeen : Cond.code yX8_isSeen cX8_isSeen 3 (some .boolean) ∈ lw_tbl := List.mem_of_getElem? (i := 994) (by decide +kernel)
theorem wd_X8_isSetting : Cond.code yX8_isSetting cX8_isSetting 2 (some .boolean) ∈ lw_tbl := List.mem_of_getElem? (i := 889) (by decide +kernel)
theorem wd_X8_isThing : Cond.code yX8_isThing cX8_isThing 2 (some .boolean) ∈ lw_tbl := List.mem_of_getElem? (i := 921) (by decide +kernel)
theorem wd_X8_look : Cond.code yX8_look cX8_look 1 (some .int) ∈ lw_tbl := List.mem_of_getElem? (i := 1167) (by decide +kernel)
theorem wd_X8_mostVoted : Cond.code yX8_mostVoted cX8_mostVoted 4 (some .int) ∈ lw_tbl := List.mem_of_getElem? (i := 1059) (by decide +kernel)
theorem wd_X8_noVotes : Cond.code yX8_noVotes cX8_noVotes 2 none ∈ lw_tbl := List.mem_of_getElem? (i := 1047) (by decide +kernel)
theorem wd_X8_notes : Cond.code yX8_notes cX8_notes 2 none ∈ lw_tbl := List.mem_of_getElem? (i := 898) (by decide +kernel)
theorem wd_X8_number : Cond.code yX8_number cX8_number 5 none ∈ lw_tbl := List.mem_of_getElem? (i := 1171) (by decide +kernel)
theorem wd_X8_pixelOf : Cond.code yX8_pixelOf cX8_pixelOf 4 (some .int) ∈ lw_tbl := List.mem_of_getElem? (i := 1001) (by decide +kernel)
theorem wd_X8_placeAt : Cond.code yX8_placeAt cX8_placeAt 4 (some .int) ∈ lw_tbl := List.mem_of_getElem? (i := 924) (by decide +kernel)
theorem wd_X8_rowFits : Cond.code yX8_rowFits cX8_rowFits 6 (some .boolean) ∈ lw_tbl := List.mem_of_getElem? (i := 1123) (by decide +kernel)
theorem wd_X8_shown : Cond.code yX8_shown cX8_shown 6 (some .int) ∈ lw_tbl := List.mem_of_getElem? (i := 950) (by decide +kernel)
theorem wd_X8_sign : Cond.code yX8_sign cX8_sign 2 none ∈ lw_tbl := List.mem_of_getElem? (i := 1175) (by decide +kernel)
theorem wd_X8_size : Cond.code yX8_size cX8_size 1 (some .int) ∈ lw_tbl := List.mem_of_getElem? (i := 1035) (by decide +kernel)
theorem wd_X8_slantOf : Cond.code yX8_slantOf cX8_slantOf 3 (some .int) ∈ lw_tbl := List.mem_of_getElem? (i := 1083) (by decide +kernel)
theorem wd_X8_takes : Cond.code yX8_takes cX8_takes 4 none ∈ lw_tbl := List.mem_of_getElem? (i := 963) (by decide +kernel)
theorem wd_X8_toldBy : Cond.code yX8_toldBy cX8_toldBy 5 (some .int) ∈ lw_tbl := List.mem_of_getElem? (i := 1043) (by decide +kernel)
theorem wd_X8_tries : Cond.code yX8_tries cX8_tries 5 none ∈ lw_tbl := List.mem_of_getElem? (i := 1115) (by decide +kernel)
theorem wd_X8_voteBy : Cond.code yX8_voteBy cX8_voteBy 6 (some .int) ∈ lw_tbl := List.mem_of_getElem? (i := 1029) (by decide +kernel)
theorem wd_X8_voteOf : Cond.code yX8_voteOf cX8_voteOf 4 (some .int) ∈ lw_tbl := List.mem_of_getElem? (i := 1026) (by decide +kernel)
theorem wd_X8_votersOf : Cond.code yX8_votersOf cX8_votersOf 8 (some .int) ∈ lw_tbl := List.mem_of_getElem? (i := 1067) (by decide +kernel)
theorem wd_X8_weightOf : Cond.code yX8_weightOf cX8_weightOf 3 (some .int) ∈ lw_tbl := List.mem_of_getElem? (i := 1051) (by decide +kernel)
theorem wd_X8_wrongIn : Cond.code yX8_wrongIn cX8_wrongIn 2 (some .int) ∈ lw_tbl := List.mem_of_getElem? (i := 1179) (by decide +kernel)
theorem wd_X8_wrongNumber : Cond.code yX8_wrongNumber cX8_wrongNumber 6 (some .int) ∈ lw_tbl := List.mem_of_getElem? (i := 908) (by decide +kernel)
theorem wi_X0 : Cond.instantiable RX0 3 ∈ lw_tbl := List.mem_of_getElem? (i := 120) (by decide +kernel)
theorem wi_X1 : Cond.instantiable RX1 11 ∈ lw_tbl := List.mem_of_getElem? (i := 272) (by decide +kernel)
theorem wi_X2 : Cond.instantiable RX2 4 ∈ lw_tbl := List.mem_of_getElem? (i := 192) (by decide +kernel)
theorem wi_X3 : Cond.instantiable RX3 10 ∈ lw_tbl := List.mem_of_getElem? (i := 73) (by decide +kernel)
theorem wi_X4 : Cond.instantiable RX4 10 ∈ lw_tbl := List.mem_of_getElem? (i := 186) (by decide +kernel)
theorem wi_X5 : Cond.instantiable RX5 6 ∈ lw_tbl := List.mem_of_getElem? (i := 87) (by decide +kernel)
theorem wi_X6 : Cond.instantiable RX6 4 ∈ lw_tbl := List.mem_of_getElem? (i := 253) (by decide +kernel)
theorem wl_RX3_15 : Cond.classLink RX3 15 RX5 ∈ lw_tbl := List.mem_of_getElem? (i := 78) (by decide +kernel)
theorem wl_RX3_21 : Cond.classLink RX3 21 RX0 ∈ lw_tbl := List.mem_of_getElem? (i := 80) (by decide +kernel)
theorem wl_RX4_15 : Cond.classLink RX4 15 RX2 ∈ lw_tbl := List.mem_of_getElem? (i := 191) (by decide +kernel)
theorem wl_RX7_24 : Cond.classLink RX7 24 RX4 ∈ lw_tbl := List.mem_of_getElem? (i := 185) (by decide +kernel)
theorem wl_RX7_31 : Cond.classLink RX7 31 RX6 ∈ lw_tbl := List.mem_of_getElem? (i := 252) (by decide +kernel)
theorem wl_RX7_38 : Cond.classLink RX7 38 RX1 ∈ lw_tbl := List.mem_of_getElem? (i := 271) (by decide +kernel)
theorem wl_RX7_45 : Cond.classLink RX7 45 RX0 ∈ lw_tbl := List.mem_of_getElem? (i := 311) (by decide +kernel)
theorem wl_RX7_9 : Cond.classLink RX7 9 RX3 ∈ lw_tbl := List.mem_of_getElem? (i := 72) (by decide +kernel)
theorem wm_RX0_3 : Cond.methodLink RX0 3 Lib.objectInit ∈ lw_tbl := List.mem_of_getElem? (i := 124) (by decide +kernel)
theorem wm_RX1_100 : Cond.methodLink RX1 100 yX3_paint ∈ lw_tbl := List.mem_of_getElem? (i := 695) (by decide +kernel)
theorem wm_RX1_105 : Cond.methodLink RX1 105 yX0_pixelAt ∈ lw_tbl := List.mem_of_getElem? (i := 697) (by decide +kernel)
theorem wm_RX1_27 : Cond.methodLink RX1 27 yX3_thingAt ∈ lw_tbl := List.mem_of_getElem? (i := 681) (by decide +kernel)
theorem wm_RX1_3 : Cond.methodLink RX1 3 Lib.objectInit ∈ lw_tbl := List.mem_of_getElem? (i := 276) (by decide +kernel)
theorem wm_RX1_37 : Cond.methodLink RX1 37 yX1_gatherDemands ∈ lw_tbl := List.mem_of_getElem? (i := 682) (by decide +kernel)
theorem wm_RX1_46 : Cond.methodLink RX1 46 yX1_meetsDemands ∈ lw_tbl := List.mem_of_getElem? (i := 700) (by decide +kernel)
theorem wm_RX1_50 : Cond.methodLink RX1 50 yX1_keepMotion ∈ lw_tbl := List.mem_of_getElem? (i := 705) (by decide +kernel)
theorem wm_RX1_72 : Cond.methodLink RX1 72 yX3_frameAt ∈ lw_tbl := List.mem_of_getElem? (i := 686) (by decide +kernel)
theorem wm_RX1_76 : Cond.methodLink RX1 76 yX3_setting ∈ lw_tbl := List.mem_of_getElem? (i := 687) (by decide +kernel)
theorem wm_RX1_89 : Cond.methodLink RX1 89 yX1_addDemand ∈ lw_tbl := List.mem_of_getElem? (i := 689) (by decide +kernel)
theorem wm_RX1_93 : Cond.methodLink RX1 93 yX3_timeOfRow ∈ lw_tbl := List.mem_of_getElem? (i := 693) (by decide +kernel)
theorem wm_RX1_97 : Cond.methodLink RX1 97 yX3_percentAt ∈ lw_tbl := List.mem_of_getElem? (i := 694) (by decide +kernel)
theorem wm_RX2_15 : Cond.methodLink RX2 15 yX4_signAt ∈ lw_tbl := List.mem_of_getElem? (i := 772) (by decide +kernel)
theorem wm_RX2_25 : Cond.methodLink RX2 25 yX2_numbersBehind ∈ lw_tbl := List.mem_of_getElem? (i := 776) (by decide +kernel)
theorem wm_RX2_3 : Cond.methodLink RX2 3 Lib.objectInit ∈ lw_tbl := List.mem_of_getElem? (i := 196) (by decide +kernel)
theorem wm_RX2_37 : Cond.methodLink RX2 37 yX2_readSign ∈ lw_tbl := List.mem_of_getElem? (i := 779) (by decide +kernel)
theorem wm_RX2_41 : Cond.methodLink RX2 41 yX2_readNumber ∈ lw_tbl := List.mem_of_getElem? (i := 783) (by decide +kernel)
theorem wm_RX2_45 : Cond.methodLink RX2 45 yX2_isDigit ∈ lw_tbl := List.mem_of_getElem? (i := 787) (by decide +kernel)
theorem wm_RX2_53 : Cond.methodLink RX2 53 yX2_numberAt ∈ lw_tbl := List.mem_of_getElem? (i := 798) (by decide +kernel)
theorem wm_RX2_65 : Cond.methodLink RX2 65 yX3_addThing ∈ lw_tbl := List.mem_of_getElem? (i := 820) (by decide +kernel)
theorem wm_RX2_74 : Cond.methodLink RX2 74 yX3_takeFrame ∈ lw_tbl := List.mem_of_getElem? (i := 821) (by decide +kernel)
theorem wm_RX3_102 : Cond.methodLink RX3 102 yX3_photograph ∈ lw_tbl := List.mem_of_getElem? (i := 496) (by decide +kernel)
theorem wm_RX3_106 : Cond.methodLink RX3 106 yX3_setting ∈ lw_tbl := List.mem_of_getElem? (i := 451) (by decide +kernel)
theorem wm_RX3_116 : Cond.methodLink RX3 116 yX3_timeOfRow ∈ lw_tbl := List.mem_of_getElem? (i := 500) (by decide +kernel)
theorem wm_RX3_120 : Cond.methodLink RX3 120 yX3_paint ∈ lw_tbl := List.mem_of_getElem? (i := 504) (by decide +kernel)
theorem wm_RX3_124 : Cond.methodLink RX3 124 yX3_percentAt ∈ lw_tbl := List.mem_of_getElem? (i := 505) (by decide +kernel)
theorem wm_RX3_127 : Cond.methodLink RX3 127 yX0_keepRow ∈ lw_tbl := List.mem_of_getElem? (i := 506) (by decide +kernel)
theorem wm_RX3_135 : Cond.methodLink RX3 135 yX5_isIn ∈ lw_tbl := List.mem_of_getElem? (i := 452) (by decide +kernel)
theorem wm_RX3_139 : Cond.methodLink RX3 139 yX5_positionAt ∈ lw_tbl := List.mem_of_getElem? (i := 456) (by decide +kernel)
theorem wm_RX3_146 : Cond.methodLink RX3 146 yX3_paintOver ∈ lw_tbl := List.mem_of_getElem? (i := 469) (by decide +kernel)
theorem wm_RX3_150 : Cond.methodLink RX3 150 yX0_pixelAt ∈ lw_tbl := List.mem_of_getElem? (i := 529) (by decide +kernel)
theorem wm_RX3_153 : Cond.methodLink RX3 153 yJ9_abs_0f7a4 ∈ lw_tbl := List.mem_of_getElem? (i := 534) (by decide +kernel)
theorem wm_RX3_158 : Cond.methodLink RX3 158 yJ9_max_7cf53 ∈ lw_tbl := List.mem_of_getElem? (i := 594) (by decide +kernel)
theorem wm_RX3_3 : Cond.methodLink RX3 3 Lib.objectInit ∈ lw_tbl := List.mem_of_getElem? (i := 77) (by decide +kernel)
theorem wm_RX3_42 : Cond.methodLink RX3 42 yX3_becomeInThings ∈ lw_tbl := List.mem_of_getElem? (i := 360) (by decide +kernel)
theorem wm_RX3_46 : Cond.methodLink RX3 46 yX3_becomeInFrames ∈ lw_tbl := List.mem_of_getElem? (i := 372) (by decide +kernel)
theorem wm_RX3_59 : Cond.methodLink RX3 59 yX3_thingAt ∈ lw_tbl := List.mem_of_getElem? (i := 364) (by decide +kernel)
theorem wm_RX3_63 : Cond.methodLink RX3 63 yX5_become ∈ lw_tbl := List.mem_of_getElem? (i := 368) (by decide +kernel)
theorem wm_RX3_73 : Cond.methodLink RX3 73 yX3_frameAt ∈ lw_tbl := List.mem_of_getElem? (i := 376) (by decide +kernel)
theorem wm_RX3_77 : Cond.methodLink RX3 77 yX0_become ∈ lw_tbl := List.mem_of_getElem? (i := 380) (by decide +kernel)
theorem wm_RX3_98 : Cond.methodLink RX3 98 yX3_dropFrame ∈ lw_tbl := List.mem_of_getElem? (i := 492) (by decide +kernel)
theorem wm_RX4_3 : Cond.methodLink RX4 3 Lib.objectInit ∈ lw_tbl := List.mem_of_getElem? (i := 190) (by decide +kernel)
theorem wm_RX4_55 : Cond.methodLink RX4 55 yX2_read ∈ lw_tbl := List.mem_of_getElem? (i := 768) (by decide +kernel)
theorem wm_RX4_59 : Cond.methodLink RX4 59 yX4_examineOrder ∈ lw_tbl := List.mem_of_getElem? (i := 790) (by decide +kernel)
theorem wm_RX4_72 : Cond.methodLink RX4 72 yX2_wrongNumber ∈ lw_tbl := List.mem_of_getElem? (i := 794) (by decide +kernel)
theorem wm_RX4_76 : Cond.methodLink RX4 76 yX4_isPossibleThen ∈ lw_tbl := List.mem_of_getElem? (i := 805) (by decide +kernel)
theorem wm_RX4_80 : Cond.methodLink RX4 80 yX2_numberAt ∈ lw_tbl := List.mem_of_getElem? (i := 809) (by decide +kernel)
theorem wm_RX5_1 : Cond.methodLink RX5 1 Lib.objectInit ∈ lw_tbl := List.mem_of_getElem? (i := 91) (by decide +kernel)
theorem wm_RX5_28 : Cond.methodLink RX5 28 yX5_positionAt ∈ lw_tbl := List.mem_of_getElem? (i := 413) (by decide +kernel)
theorem wm_RX6_24 : Cond.methodLink RX6 24 yX6_readEdges ∈ lw_tbl := List.mem_of_getElem? (i := 567) (by decide +kernel)
theorem wm_RX6_28 : Cond.methodLink RX6 28 yX3_setting ∈ lw_tbl := List.mem_of_getElem? (i := 571) (by decide +kernel)
theorem wm_RX6_3 : Cond.methodLink RX6 3 Lib.objectInit ∈ lw_tbl := List.mem_of_getElem? (i := 257) (by decide +kernel)
theorem wm_RX6_34 : Cond.methodLink RX6 34 yX3_edgesIn ∈ lw_tbl := List.mem_of_getElem? (i := 572) (by decide +kernel)
theorem wm_RX6_46 : Cond.methodLink RX6 46 yX6_countVotes ∈ lw_tbl := List.mem_of_getElem? (i := 585) (by decide +kernel)
theorem wm_RX6_50 : Cond.methodLink RX6 50 yX6_readFirst ∈ lw_tbl := List.mem_of_getElem? (i := 641) (by decide +kernel)
theorem wm_RX6_55 : Cond.methodLink RX6 55 yX3_weightOf ∈ lw_tbl := List.mem_of_getElem? (i := 590) (by decide +kernel)
theorem wm_RX6_58 : Cond.methodLink RX6 58 yX6_votersFor ∈ lw_tbl := List.mem_of_getElem? (i := 628) (by decide +kernel)
theorem wm_RX6_61 : Cond.methodLink RX6 61 yJ9_max_7cf53 ∈ lw_tbl := List.mem_of_getElem? (i := 611) (by decide +kernel)
theorem wm_RX6_66 : Cond.methodLink RX6 66 yX6_mostVotes ∈ lw_tbl := List.mem_of_getElem? (i := 607) (by decide +kernel)
theorem wm_RX7_11 : Cond.methodLink RX7 11 yX3_init ∈ lw_tbl := List.mem_of_getElem? (i := 74) (by decide +kernel)
theorem wm_RX7_110 : Cond.methodLink RX7 110 yX5_changeSpeed ∈ lw_tbl := List.mem_of_getElem? (i := 409) (by decide +kernel)
theorem wm_RX7_113 : Cond.methodLink RX7 113 yX5_positionAt ∈ lw_tbl := List.mem_of_getElem? (i := 421) (by decide +kernel)
theorem wm_RX7_116 : Cond.methodLink RX7 116 yX5_numberOf ∈ lw_tbl := List.mem_of_getElem? (i := 422) (by decide +kernel)
theorem wm_RX7_122 : Cond.methodLink RX7 122 yX7_holds ∈ lw_tbl := List.mem_of_getElem? (i := 430) (by decide +kernel)
theorem wm_RX7_126 : Cond.methodLink RX7 126 yJ6_bitCount_0f7a4 ∈ lw_tbl := List.mem_of_getElem? (i := 433) (by decide +kernel)
theorem wm_RX7_131 : Cond.methodLink RX7 131 yX7_isPlace ∈ lw_tbl := List.mem_of_getElem? (i := 443) (by decide +kernel)
theorem wm_RX7_134 : Cond.methodLink RX7 134 yX3_paint ∈ lw_tbl := List.mem_of_getElem? (i := 447) (by decide +kernel)
theorem wm_RX7_138 : Cond.methodLink RX7 138 yX3_percentAt ∈ lw_tbl := List.mem_of_getElem? (i := 474) (by decide +kernel)
theorem wm_RX7_141 : Cond.methodLink RX7 141 yX7_dimmed ∈ lw_tbl := List.mem_of_getElem? (i := 481) (by decide +kernel)
theorem wm_RX7_145 : Cond.methodLink RX7 145 yX3_takeFrame ∈ lw_tbl := List.mem_of_getElem? (i := 488) (by decide +kernel)
theorem wm_RX7_149 : Cond.methodLink RX7 149 yX3_frameAt ∈ lw_tbl := List.mem_of_getElem? (i := 515) (by decide +kernel)
theorem wm_RX7_153 : Cond.methodLink RX7 153 yX3_dropFrame ∈ lw_tbl := List.mem_of_getElem? (i := 516) (by decide +kernel)
theorem wm_RX7_159 : Cond.methodLink RX7 159 yX7_edgeCountOf ∈ lw_tbl := List.mem_of_getElem? (i := 521) (by decide +kernel)
theorem wm_RX7_164 : Cond.methodLink RX7 164 yX0_pixelAt ∈ lw_tbl := List.mem_of_getElem? (i := 542) (by decide +kernel)
theorem wm_RX7_167 : Cond.methodLink RX7 167 yX3_edgesIn ∈ lw_tbl := List.mem_of_getElem? (i := 525) (by decide +kernel)
theorem wm_RX7_171 : Cond.methodLink RX7 171 yX7_isPair ∈ lw_tbl := List.mem_of_getElem? (i := 555) (by decide +kernel)
theorem wm_RX7_174 : Cond.methodLink RX7 174 yX7_voteOn ∈ lw_tbl := List.mem_of_getElem? (i := 559) (by decide +kernel)
theorem wm_RX7_177 : Cond.methodLink RX7 177 yX6_voteOf ∈ lw_tbl := List.mem_of_getElem? (i := 595) (by decide +kernel)
theorem wm_RX7_180 : Cond.methodLink RX7 180 yX6_told ∈ lw_tbl := List.mem_of_getElem? (i := 603) (by decide +kernel)
theorem wm_RX7_184 : Cond.methodLink RX7 184 yX6_votersFor ∈ lw_tbl := List.mem_of_getElem? (i := 616) (by decide +kernel)
theorem wm_RX7_187 : Cond.methodLink RX7 187 yX6_votersAtAll ∈ lw_tbl := List.mem_of_getElem? (i := 624) (by decide +kernel)
theorem wm_RX7_190 : Cond.methodLink RX7 190 yX6_voteOnSlant ∈ lw_tbl := List.mem_of_getElem? (i := 637) (by decide +kernel)
theorem wm_RX7_194 : Cond.methodLink RX7 194 yX6_weigh ∈ lw_tbl := List.mem_of_getElem? (i := 650) (by decide +kernel)
theorem wm_RX7_198 : Cond.methodLink RX7 198 yX3_judgeRows ∈ lw_tbl := List.mem_of_getElem? (i := 658) (by decide +kernel)
theorem wm_RX7_201 : Cond.methodLink RX7 201 yX3_weightOf ∈ lw_tbl := List.mem_of_getElem? (i := 666) (by decide +kernel)
theorem wm_RX7_210 : Cond.methodLink RX7 210 yX6_readFirst ∈ lw_tbl := List.mem_of_getElem? (i := 563) (by decide +kernel)
theorem wm_RX7_213 : Cond.methodLink RX7 213 yX3_photograph ∈ lw_tbl := List.mem_of_getElem? (i := 671) (by decide +kernel)
theorem wm_RX7_217 : Cond.methodLink RX7 217 yX6_readSecond ∈ lw_tbl := List.mem_of_getElem? (i := 573) (by decide +kernel)
theorem wm_RX7_220 : Cond.methodLink RX7 220 yX6_voteOnShift ∈ lw_tbl := List.mem_of_getElem? (i := 577) (by decide +kernel)
theorem wm_RX7_223 : Cond.methodLink RX7 223 yX6_mostVotes ∈ lw_tbl := List.mem_of_getElem? (i := 672) (by decide +kernel)
theorem wm_RX7_226 : Cond.methodLink RX7 226 yX1_run ∈ lw_tbl := List.mem_of_getElem? (i := 677) (by decide +kernel)
theorem wm_RX7_230 : Cond.methodLink RX7 230 yX1_isVain ∈ lw_tbl := List.mem_of_getElem? (i := 709) (by decide +kernel)
theorem wm_RX7_234 : Cond.methodLink RX7 234 yX1_answer ∈ lw_tbl := List.mem_of_getElem? (i := 713) (by decide +kernel)
theorem wm_RX7_238 : Cond.methodLink RX7 238 yX7_periodsFitting ∈ lw_tbl := List.mem_of_getElem? (i := 722) (by decide +kernel)
theorem wm_RX7_241 : Cond.methodLink RX7 241 yX3_timeOfRow ∈ lw_tbl := List.mem_of_getElem? (i := 726) (by decide +kernel)
theorem wm_RX7_244 : Cond.methodLink RX7 244 yX7_rowFits ∈ lw_tbl := List.mem_of_getElem? (i := 732) (by decide +kernel)
theorem wm_RX7_251 : Cond.methodLink RX7 251 yX7_isDark ∈ lw_tbl := List.mem_of_getElem? (i := 731) (by decide +kernel)
theorem wm_RX7_257 : Cond.methodLink RX7 257 yX3_become ∈ lw_tbl := List.mem_of_getElem? (i := 356) (by decide +kernel)
theorem wm_RX7_260 : Cond.methodLink RX7 260 yX4_append ∈ lw_tbl := List.mem_of_getElem? (i := 752) (by decide +kernel)
theorem wm_RX7_264 : Cond.methodLink RX7 264 yX4_examine ∈ lw_tbl := List.mem_of_getElem? (i := 764) (by decide +kernel)
theorem wm_RX7_283 : Cond.methodLink RX7 283 yX2_read ∈ lw_tbl := List.mem_of_getElem? (i := 815) (by decide +kernel)
theorem wm_RX7_289 : Cond.methodLink RX7 289 yX2_perform ∈ lw_tbl := List.mem_of_getElem? (i := 816) (by decide +kernel)
theorem wm_RX7_296 : Cond.methodLink RX7 296 yX7_darkPeriods ∈ lw_tbl := List.mem_of_getElem? (i := 727) (by decide +kernel)
theorem wm_RX7_299 : Cond.methodLink RX7 299 yJ9_floorDiv_7cf53 ∈ lw_tbl := List.mem_of_getElem? (i := 460) (by decide +kernel)
theorem wm_RX7_3 : Cond.methodLink RX7 3 Lib.objectInit ∈ lw_tbl := List.mem_of_getElem? (i := 69) (by decide +kernel)
theorem wm_RX7_304 : Cond.methodLink RX7 304 yJ9_min_7cf53 ∈ lw_tbl := List.mem_of_getElem? (i := 463) (by decide +kernel)
theorem wm_RX7_307 : Cond.methodLink RX7 307 yJ9_max_7cf53 ∈ lw_tbl := List.mem_of_getElem? (i := 466) (by decide +kernel)
theorem wm_RX7_56 : Cond.methodLink RX7 56 yX7_isWithin ∈ lw_tbl := List.mem_of_getElem? (i := 342) (by decide +kernel)
theorem wm_RX7_64 : Cond.methodLink RX7 64 yX7_numberIn ∈ lw_tbl := List.mem_of_getElem? (i := 348) (by decide +kernel)
theorem wm_RX7_75 : Cond.methodLink RX7 75 yX7_recordState ∈ lw_tbl := List.mem_of_getElem? (i := 352) (by decide +kernel)
theorem wm_RX7_78 : Cond.methodLink RX7 78 yX3_setting ∈ lw_tbl := List.mem_of_getElem? (i := 384) (by decide +kernel)
theorem wm_RX7_82 : Cond.methodLink RX7 82 yX3_changeSetting ∈ lw_tbl := List.mem_of_getElem? (i := 388) (by decide +kernel)
theorem wm_RX7_86 : Cond.methodLink RX7 86 yX7_wrongOfThing ∈ lw_tbl := List.mem_of_getElem? (i := 396) (by decide +kernel)
theorem wm_RX7_94 : Cond.methodLink RX7 94 yX3_addThing ∈ lw_tbl := List.mem_of_getElem? (i := 400) (by decide +kernel)
theorem wm_RX7_98 : Cond.methodLink RX7 98 yX3_thingAt ∈ lw_tbl := List.mem_of_getElem? (i := 408) (by decide +kernel)
theorem wm_RX8_1 : Cond.methodLink RX8 1 Lib.objectInit ∈ lw_tbl := List.mem_of_getElem? (i := 827) (by decide +kernel)
theorem wm_RX8_100 : Cond.methodLink RX8 100 yX8_frameValue ∈ lw_tbl := List.mem_of_getElem? (i := 979) (by decide +kernel)
theorem wm_RX8_104 : Cond.methodLink RX8 104 yX8_has ∈ lw_tbl := List.mem_of_getElem? (i := 995) (by decide +kernel)
theorem wm_RX8_107 : Cond.methodLink RX8 107 yX8_isSeen ∈ lw_tbl := List.mem_of_getElem? (i := 991) (by decide +kernel)
theorem wm_RX8_110 : Cond.methodLink RX8 110 yX8_pixelOf ∈ lw_tbl := List.mem_of_getElem? (i := 998) (by decide +kernel)
theorem wm_RX8_114 : Cond.methodLink RX8 114 yX8_isEdge ∈ lw_tbl := List.mem_of_getElem? (i := 987) (by decide +kernel)
theorem wm_RX8_117 : Cond.methodLink RX8 117 yX8_edgesIn ∈ lw_tbl := List.mem_of_getElem? (i := 983) (by decide +kernel)
theorem wm_RX8_121 : Cond.methodLink RX8 121 yX8_agreeing ∈ lw_tbl := List.mem_of_getElem? (i := 1030) (by decide +kernel)
theorem wm_RX8_124 : Cond.methodLink RX8 124 yX8_size ∈ lw_tbl := List.mem_of_getElem? (i := 1033) (by decide +kernel)
theorem wm_RX8_127 : Cond.methodLink RX8 127 yX8_voteBy ∈ lw_tbl := List.mem_of_getElem? (i := 1027) (by decide +kernel)
theorem wm_RX8_130 : Cond.methodLink RX8 130 yX8_areFrames ∈ lw_tbl := List.mem_of_getElem? (i := 1019) (by decide +kernel)
theorem wm_RX8_133 : Cond.methodLink RX8 133 yX8_voteOf ∈ lw_tbl := List.mem_of_getElem? (i := 1023) (by decide +kernel)
theorem wm_RX8_136 : Cond.methodLink RX8 136 yX8_noVotes ∈ lw_tbl := List.mem_of_getElem? (i := 1044) (by decide +kernel)
theorem wm_RX8_139 : Cond.methodLink RX8 139 yX8_weightOf ∈ lw_tbl := List.mem_of_getElem? (i := 1048) (by decide +kernel)
theorem wm_RX8_142 : Cond.methodLink RX8 142 yX8_counts ∈ lw_tbl := List.mem_of_getElem? (i := 1052) (by decide +kernel)
theorem wm_RX8_146 : Cond.methodLink RX8 146 yX8_mostVoted ∈ lw_tbl := List.mem_of_getElem? (i := 1056) (by decide +kernel)
theorem wm_RX8_150 : Cond.methodLink RX8 150 yX8_toldBy ∈ lw_tbl := List.mem_of_getElem? (i := 1040) (by decide +kernel)
theorem wm_RX8_154 : Cond.methodLink RX8 154 yX8_votersOf ∈ lw_tbl := List.mem_of_getElem? (i := 1064) (by decide +kernel)
theorem wm_RX8_158 : Cond.methodLink RX8 158 yX8_slantOf ∈ lw_tbl := List.mem_of_getElem? (i := 1080) (by decide +kernel)
theorem wm_RX8_161 : Cond.methodLink RX8 161 yX8_edgesAt ∈ lw_tbl := List.mem_of_getElem? (i := 1104) (by decide +kernel)
theorem wm_RX8_164 : Cond.methodLink RX8 164 yX8_rowFits ∈ lw_tbl := List.mem_of_getElem? (i := 1120) (by decide +kernel)
theorem wm_RX8_171 : Cond.methodLink RX8 171 yX8_allFit ∈ lw_tbl := List.mem_of_getElem? (i := 1116) (by decide +kernel)
theorem wm_RX8_187 : Cond.methodLink RX8 187 yX8_tries ∈ lw_tbl := List.mem_of_getElem? (i := 1112) (by decide +kernel)
theorem wm_RX8_200 : Cond.methodLink RX8 200 yX8_look ∈ lw_tbl := List.mem_of_getElem? (i := 1164) (by decide +kernel)
theorem wm_RX8_203 : Cond.methodLink RX8 203 yX8_number ∈ lw_tbl := List.mem_of_getElem? (i := 1168) (by decide +kernel)
theorem wm_RX8_206 : Cond.methodLink RX8 206 yX8_sign ∈ lw_tbl := List.mem_of_getElem? (i := 1172) (by decide +kernel)
theorem wm_RX8_218 : Cond.methodLink RX8 218 yX8_faults ∈ lw_tbl := List.mem_of_getElem? (i := 1156) (by decide +kernel)
theorem wm_RX8_222 : Cond.methodLink RX8 222 yX8_form ∈ lw_tbl := List.mem_of_getElem? (i := 1160) (by decide +kernel)
theorem wm_RX8_225 : Cond.methodLink RX8 225 yX8_wrongIn ∈ lw_tbl := List.mem_of_getElem? (i := 1176) (by decide +kernel)
theorem wm_RX8_228 : Cond.methodLink RX8 228 yX8_can ∈ lw_tbl := List.mem_of_getElem? (i := 1180) (by decide +kernel)
theorem wm_RX8_231 : Cond.methodLink RX8 231 yX8_does ∈ lw_tbl := List.mem_of_getElem? (i := 1183) (by decide +kernel)
theorem wm_RX8_234 : Cond.methodLink RX8 234 yX8_done ∈ lw_tbl := List.mem_of_getElem? (i := 1152) (by decide +kernel)
theorem wm_RX8_32 : Cond.methodLink RX8 32 yX8_copies ∈ lw_tbl := List.mem_of_getElem? (i := 899) (by decide +kernel)
theorem wm_RX8_36 : Cond.methodLink RX8 36 yX8_in ∈ lw_tbl := List.mem_of_getElem? (i := 890) (by decide +kernel)
theorem wm_RX8_40 : Cond.methodLink RX8 40 yX8_isSetting ∈ lw_tbl := List.mem_of_getElem? (i := 887) (by decide +kernel)
theorem wm_RX8_46 : Cond.methodLink RX8 46 yX8_notes ∈ lw_tbl := List.mem_of_getElem? (i := 895) (by decide +kernel)
theorem wm_RX8_50 : Cond.methodLink RX8 50 yX8_wrongNumber ∈ lw_tbl := List.mem_of_getElem? (i := 906) (by decide +kernel)
theorem wm_RX8_55 : Cond.methodLink RX8 55 yX8_adds ∈ lw_tbl := List.mem_of_getElem? (i := 911) (by decide +kernel)
theorem wm_RX8_59 : Cond.methodLink RX8 59 yX8_isThing ∈ lw_tbl := List.mem_of_getElem? (i := 918) (by decide +kernel)
theorem wm_RX8_63 : Cond.methodLink RX8 63 yX8_placeAt ∈ lw_tbl := List.mem_of_getElem? (i := 922) (by decide +kernel)
theorem wm_RX8_67 : Cond.methodLink RX8 67 yX8_bits ∈ lw_tbl := List.mem_of_getElem? (i := 933) (by decide +kernel)
theorem wm_RX8_71 : Cond.methodLink RX8 71 yX8_covers ∈ lw_tbl := List.mem_of_getElem? (i := 951) (by decide +kernel)
theorem wm_RX8_75 : Cond.methodLink RX8 75 yX8_isDark ∈ lw_tbl := List.mem_of_getElem? (i := 954) (by decide +kernel)
theorem wm_RX8_79 : Cond.methodLink RX8 79 yX8_isRow ∈ lw_tbl := List.mem_of_getElem? (i := 940) (by decide +kernel)
theorem wm_RX8_82 : Cond.methodLink RX8 82 yX8_isColumn ∈ lw_tbl := List.mem_of_getElem? (i := 944) (by decide +kernel)
theorem wm_RX8_85 : Cond.methodLink RX8 85 yX8_shown ∈ lw_tbl := List.mem_of_getElem? (i := 948) (by decide +kernel)
theorem wm_RX8_89 : Cond.methodLink RX8 89 yX8_drops ∈ lw_tbl := List.mem_of_getElem? (i := 964) (by decide +kernel)
theorem wm_RX8_93 : Cond.methodLink RX8 93 yX8_takes ∈ lw_tbl := List.mem_of_getElem? (i := 961) (by decide +kernel)
theorem wm_RX8_97 : Cond.methodLink RX8 97 yX8_isFrame ∈ lw_tbl := List.mem_of_getElem? (i := 971) (by decide +kernel)
theorem wn_RX0_22 : Cond.methodLinkNest RX0 22 yX7_numberIn "RowVotes" ∈ lw_tbl := List.mem_of_getElem? (i := 533) (by decide +kernel)
theorem wn_RX0_26 : Cond.methodLinkNest RX0 26 yX7_dimmed "RowVotes" ∈ lw_tbl := List.mem_of_getElem? (i := 510) (by decide +kernel)
theorem wn_RX1_109 : Cond.methodLinkNest RX1 109 yX7_numberIn "RowVotes" ∈ lw_tbl := List.mem_of_getElem? (i := 698) (by decide +kernel)
theorem wn_RX1_113 : Cond.methodLinkNest RX1 113 yX7_dimmed "RowVotes" ∈ lw_tbl := List.mem_of_getElem? (i := 699) (by decide +kernel)
theorem wn_RX1_116 : Cond.methodLinkNest RX1 116 yX7_columnsCovered "RowVotes" ∈ lw_tbl := List.mem_of_getElem? (i := 704) (by decide +kernel)
theorem wn_RX1_85 : Cond.methodLinkNest RX1 85 yX7_holds "RowVotes" ∈ lw_tbl := List.mem_of_getElem? (i := 688) (by decide +kernel)
theorem wn_RX2_49 : Cond.methodLinkNest RX2 49 yX7_numberIn "RowVotes" ∈ lw_tbl := List.mem_of_getElem? (i := 802) (by decide +kernel)
theorem wn_RX2_57 : Cond.methodLinkNest RX2 57 yX7_wrongOfThing "RowVotes" ∈ lw_tbl := List.mem_of_getElem? (i := 803) (by decide +kernel)
theorem wn_RX2_61 : Cond.methodLinkNest RX2 61 yX7_isWithin "RowVotes" ∈ lw_tbl := List.mem_of_getElem? (i := 804) (by decide +kernel)
theorem wn_RX3_112 : Cond.methodLinkNest RX3 112 yX7_holds "RowVotes" ∈ lw_tbl := List.mem_of_getElem? (i := 473) (by decide +kernel)
theorem wn_RX3_131 : Cond.methodLinkNest RX3 131 yX7_isDark "RowVotes" ∈ lw_tbl := List.mem_of_getElem? (i := 478) (by decide +kernel)
theorem wn_RX3_142 : Cond.methodLinkNest RX3 142 yX7_columnsCovered "RowVotes" ∈ lw_tbl := List.mem_of_getElem? (i := 457) (by decide +kernel)
theorem wn_RX3_36 : Cond.methodLinkNest RX3 36 yX7_numberIn "RowVotes" ∈ lw_tbl := List.mem_of_getElem? (i := 84) (by decide +kernel)
theorem wn_RX3_40 : Cond.methodLinkNest RX3 40 yX5_init "RowVotes" ∈ lw_tbl := List.mem_of_getElem? (i := 88) (by decide +kernel)
theorem wn_RX3_41 : Cond.methodLinkNest RX3 41 yX0_init "RowVotes" ∈ lw_tbl := List.mem_of_getElem? (i := 121) (by decide +kernel)
theorem wn_RX4_17 : Cond.methodLinkNest RX4 17 yX2_init "RowVotes" ∈ lw_tbl := List.mem_of_getElem? (i := 193) (by decide +kernel)
theorem wn_RX4_84 : Cond.methodLinkNest RX4 84 yX7_holds "RowVotes" ∈ lw_tbl := List.mem_of_getElem? (i := 810) (by decide +kernel)
theorem wn_RX6_38 : Cond.methodLinkNest RX6 38 yX7_numberIn "RowVotes" ∈ lw_tbl := List.mem_of_getElem? (i := 581) (by decide +kernel)
theorem wn_RX6_42 : Cond.methodLinkNest RX6 42 yX7_bestShift "RowVotes" ∈ lw_tbl := List.mem_of_getElem? (i := 582) (by decide +kernel)
theorem wn_RX7_26 : Cond.methodLinkNest RX7 26 yX4_init "RowVotes" ∈ lw_tbl := List.mem_of_getElem? (i := 187) (by decide +kernel)
theorem wn_RX7_33 : Cond.methodLinkNest RX7 33 yX6_init "RowVotes" ∈ lw_tbl := List.mem_of_getElem? (i := 254) (by decide +kernel)
theorem wn_RX7_40 : Cond.methodLinkNest RX7 40 yX1_init "RowVotes" ∈ lw_tbl := List.mem_of_getElem? (i := 273) (by decide +kernel)
theorem wn_RX7_47 : Cond.methodLinkNest RX7 47 yX0_init "RowVotes" ∈ lw_tbl := List.mem_of_getElem? (i := 312) (by decide +kernel)
theorem ws_RX3_33 : Cond.fieldLinkNest RX3 33 RX7 (snm 3) "[I" "RowVotes" ∈ lw_tbl := List.mem_of_getElem? (i := 82) (by decide +kernel)
theorem ws_RX7_61 : Cond.fieldLink RX7 61 RX7 (snm 1) "[I" ∈ lw_tbl := List.mem_of_getElem? (i := 346) (by decide +kernel)
theorem ws_RX7_68 : Cond.fieldLink RX7 68 RX7 (snm 2) "[I" ∈ lw_tbl := List.mem_of_getElem? (i := 349) (by decide +kernel)
theorem wt_J6_bitCount_0f7a4 : Cond.static yJ6_bitCount_0f7a4 ∈ lw_tbl := List.mem_of_getElem? (i := 434) (by decide +kernel)
theorem wt_J9_abs_0f7a4 : Cond.static yJ9_abs_0f7a4 ∈ lw_tbl := List.mem_of_getElem? (i := 535) (by decide +kernel)
theorem wt_J9_floorDiv_7cf53 : Cond.static yJ9_floorDiv_7cf53 ∈ lw_tbl := List.mem_of_getElem? (i := 461) (by decide +kernel)
theorem wt_J9_max_7cf53 : Cond.static yJ9_max_7cf53 ∈ lw_tbl := List.mem_of_getElem? (i := 467) (by decide +kernel)
theorem wt_J9_min_7cf53 : Cond.static yJ9_min_7cf53 ∈ lw_tbl := List.mem_of_getElem? (i := 464) (by decide +kernel)
theorem wt_X2_isDigit : Cond.static yX2_isDigit ∈ lw_tbl := List.mem_of_getElem? (i := 788) (by decide +kernel)
theorem wt_X2_numbersBehind : Cond.static yX2_numbersBehind ∈ lw_tbl := List.mem_of_getElem? (i := 777) (by decide +kernel)
theorem wt_X7_bestShift : Cond.static yX7_bestShift ∈ lw_tbl := List.mem_of_getElem? (i := 583) (by decide +kernel)
theorem wt_X7_columnsCovered : Cond.static yX7_columnsCovered ∈ lw_tbl := List.mem_of_getElem? (i := 458) (by decide +kernel)
theorem wt_X7_dimmed : Cond.static yX7_dimmed ∈ lw_tbl := List.mem_of_getElem? (i := 482) (by decide +kernel)
theorem wt_X7_holds : Cond.static yX7_holds ∈ lw_tbl := List.mem_of_getElem? (i := 431) (by decide +kernel)
theorem wt_X7_isDark : Cond.static yX7_isDark ∈ lw_tbl := List.mem_of_getElem? (i := 479) (by decide +kernel)
theorem wt_X7_isWithin : Cond.static yX7_isWithin ∈ lw_tbl := List.mem_of_getElem? (i := 343) (by decide +kernel)
theorem wt_X7_numberIn : Cond.static yX7_numberIn ∈ lw_tbl := List.mem_of_getElem? (i := 85) (by decide +kernel)
theorem wt_X7_wrongOfThing : Cond.static yX7_wrongOfThing ∈ lw_tbl := List.mem_of_getElem? (i := 397) (by decide +kernel)
theorem wt_X8_adds : Cond.static yX8_adds ∈ lw_tbl := List.mem_of_getElem? (i := 912) (by decide +kernel)
theorem wt_X8_agreeing : Cond.static yX8_agreeing ∈ lw_tbl := List.mem_of_getElem? (i := 1031) (by decide +kernel)
theorem wt_X8_bits : Cond.static yX8_bits ∈ lw_tbl := List.mem_of_getElem? (i := 934) (by decide +kernel)
theorem wt_X8_can : Cond.static yX8_can ∈ lw_tbl := List.mem_of_getElem? (i := 1181) (by decide +kernel)
theorem wt_X8_copies : Cond.static yX8_copies ∈ lw_tbl := List.mem_of_getElem? (i := 900) (by decide +kernel)
theorem wt_X8_covers : Cond.static yX8_covers ∈ lw_tbl := List.mem_of_getElem? (i := 952) (by decide +kernel)
theorem wt_X8_drops : Cond.static yX8_drops ∈ lw_tbl := List.mem_of_getElem? (i := 965) (by decide +kernel)
theorem wt_X8_has : Cond.static yX8_has ∈ lw_tbl := List.mem_of_getElem? (i := 996) (by decide +kernel)
theorem wt_X8_in : Cond.static yX8_in ∈ lw_tbl := List.mem_of_getElem? (i := 891) (by decide +kernel)
theorem wt_X8_isDark : Cond.static yX8_isDark ∈ lw_tbl := List.mem_of_getElem? (i := 955) (by decide +kernel)
theorem wt_X8_isSetting : Cond.static yX8_isSetting ∈ lw_tbl := List.mem_of_getElem? (i := 888) (by decide +kernel)
theorem wt_X8_placeAt : Cond.static yX8_placeAt ∈ lw_tbl := List.mem_of_getElem? (i := 923) (by decide +kernel)
theorem wt_X8_shown : Cond.static yX8_shown ∈ lw_tbl := List.mem_of_getElem? (i := 949) (by decide +kernel)
theorem wt_X8_size : Cond.static yX8_size ∈ lw_tbl := List.mem_of_getElem? (i := 1034) (by decide +kernel)
theorem wt_X8_takes : Cond.static yX8_takes ∈ lw_tbl := List.mem_of_getElem? (i := 962) (by decide +kernel)
theorem wt_X8_voteBy : Cond.static yX8_voteBy ∈ lw_tbl := List.mem_of_getElem? (i := 1028) (by decide +kernel)
theorem wt_X8_wrongNumber : Cond.static yX8_wrongNumber ∈ lw_tbl := List.mem_of_getElem? (i := 907) (by decide +kernel)
theorem wv_X0_become : Cond.instanceMethod yX0_become ∈ lw_tbl := List.mem_of_getElem? (i := 381) (by decide +kernel)
theorem wv_X0_init : Cond.instanceMethod yX0_init ∈ lw_tbl := List.mem_of_getElem? (i := 122) (by decide +kernel)
theorem wv_X0_keepRow : Cond.instanceMethod yX0_keepRow ∈ lw_tbl := List.mem_of_getElem? (i := 507) (by decide +kernel)
theorem wv_X0_pixelAt : Cond.instanceMethod yX0_pixelAt ∈ lw_tbl := List.mem_of_getElem? (i := 530) (by decide +kernel)
theorem wv_X1_addDemand : Cond.instanceMethod yX1_addDemand ∈ lw_tbl := List.mem_of_getElem? (i := 691) (by decide +kernel)
theorem wv_X1_answer : Cond.instanceMethod yX1_answer ∈ lw_tbl := List.mem_of_getElem? (i := 714) (by decide +kernel)
theorem wv_X1_gatherDemands : Cond.instanceMethod yX1_gatherDemands ∈ lw_tbl := List.mem_of_getElem? (i := 684) (by decide +kernel)
theorem wv_X1_init : Cond.instanceMethod yX1_init ∈ lw_tbl := List.mem_of_getElem? (i := 274) (by decide +kernel)
theorem wv_X1_isVain : Cond.instanceMethod yX1_isVain ∈ lw_tbl := List.mem_of_getElem? (i := 710) (by decide +kernel)
theorem wv_X1_keepMotion : Cond.instanceMethod yX1_keepMotion ∈ lw_tbl := List.mem_of_getElem? (i := 707) (by decide +kernel)
theorem wv_X1_meetsDemands : Cond.instanceMethod yX1_meetsDemands ∈ lw_tbl := List.mem_of_getElem? (i := 702) (by decide +kernel)
theorem wv_X1_run : Cond.instanceMethod yX1_run ∈ lw_tbl := List.mem_of_getElem? (i := 678) (by decide +kernel)
theorem wv_X2_init : Cond.instanceMethod yX2_init ∈ lw_tbl := List.mem_of_getElem? (i := 194) (by decide +kernel)
theorem wv_X2_numberAt : Cond.instanceMethod yX2_numberAt ∈ lw_tbl := List.mem_of_getElem? (i := 799) (by decide +kernel)
theorem wv_X2_perform : Cond.instanceMethod yX2_perform ∈ lw_tbl := List.mem_of_getElem? (i := 817) (by decide +kernel)
theorem wv_X2_read : Cond.instanceMethod yX2_read ∈ lw_tbl := List.mem_of_getElem? (i := 769) (by decide +kernel)
theorem wv_X2_readNumber : Cond.instanceMethod yX2_readNumber ∈ lw_tbl := List.mem_of_getElem? (i := 785) (by decide +kernel)
theorem wv_X2_readSign : Cond.instanceMethod yX2_readSign ∈ lw_tbl := List.mem_of_getElem? (i := 781) (by decide +kernel)
theorem wv_X2_wrongNumber : Cond.instanceMethod yX2_wrongNumber ∈ lw_tbl := List.mem_of_getElem? (i := 795) (by decide +kernel)
theorem wv_X3_addThing : Cond.instanceMethod yX3_addThing ∈ lw_tbl := List.mem_of_getElem? (i := 401) (by decide +kernel)
theorem wv_X3_become : Cond.instanceMethod yX3_become ∈ lw_tbl := List.mem_of_getElem? (i := 357) (by decide +kernel)
theorem wv_X3_becomeInFrames : Cond.instanceMethod yX3_becomeInFrames ∈ lw_tbl := List.mem_of_getElem? (i := 374) (by decide +kernel)
theorem wv_X3_becomeInThings : Cond.instanceMethod yX3_becomeInThings ∈ lw_tbl := List.mem_of_getElem? (i := 362) (by decide +kernel)
theorem wv_X3_changeSetting : Cond.instanceMethod yX3_changeSetting ∈ lw_tbl := List.mem_of_getElem? (i := 389) (by decide +kernel)
theorem wv_X3_dropFrame : Cond.instanceMethod yX3_dropFrame ∈ lw_tbl := List.mem_of_getElem? (i := 493) (by decide +kernel)
theorem wv_X3_edgesIn : Cond.instanceMethod yX3_edgesIn ∈ lw_tbl := List.mem_of_getElem? (i := 526) (by decide +kernel)
theorem wv_X3_frameAt : Cond.instanceMethod yX3_frameAt ∈ lw_tbl := List.mem_of_getElem? (i := 377) (by decide +kernel)
theorem wv_X3_init : Cond.instanceMethod yX3_init ∈ lw_tbl := List.mem_of_getElem? (i := 75) (by decide +kernel)
theorem wv_X3_judgeRows : Cond.instanceMethod yX3_judgeRows ∈ lw_tbl := List.mem_of_getElem? (i := 659) (by decide +kernel)
theorem wv_X3_paint : Cond.instanceMethod yX3_paint ∈ lw_tbl := List.mem_of_getElem? (i := 448) (by decide +kernel)
theorem wv_X3_paintOver : Cond.instanceMethod yX3_paintOver ∈ lw_tbl := List.mem_of_getElem? (i := 471) (by decide +kernel)
theorem wv_X3_percentAt : Cond.instanceMethod yX3_percentAt ∈ lw_tbl := List.mem_of_getElem? (i := 475) (by decide +kernel)
theorem wv_X3_photograph : Cond.instanceMethod yX3_photograph ∈ lw_tbl := List.mem_of_getElem? (i := 497) (by decide +kernel)
theorem wv_X3_setting : Cond.instanceMethod yX3_setting ∈ lw_tbl := List.mem_of_getElem? (i := 385) (by decide +kernel)
theorem wv_X3_takeFrame : Cond.instanceMethod yX3_takeFrame ∈ lw_tbl := List.mem_of_getElem? (i := 489) (by decide +kernel)
theorem wv_X3_thingAt : Cond.instanceMethod yX3_thingAt ∈ lw_tbl := List.mem_of_getElem? (i := 365) (by decide +kernel)
theorem wv_X3_timeOfRow : Cond.instanceMethod yX3_timeOfRow ∈ lw_tbl := List.mem_of_getElem? (i := 501) (by decide +kernel)
theorem wv_X3_weightOf : Cond.instanceMethod yX3_weightOf ∈ lw_tbl := List.mem_of_getElem? (i := 591) (by decide +kernel)
theorem wv_X4_append : Cond.instanceMethod yX4_append ∈ lw_tbl := List.mem_of_getElem? (i := 753) (by decide +kernel)
theorem wv_X4_examine : Cond.instanceMethod yX4_examine ∈ lw_tbl := List.mem_of_getElem? (i := 765) (by decide +kernel)
theorem wv_X4_examineOrder : Cond.instanceMethod yX4_examineOrder ∈ lw_tbl := List.mem_of_getElem? (i := 792) (by decide +kernel)
theorem wv_X4_init : Cond.instanceMethod yX4_init ∈ lw_tbl := List.mem_of_getElem? (i := 188) (by decide +kernel)
theorem wv_X4_isPossibleThen : Cond.instanceMethod yX4_isPossibleThen ∈ lw_tbl := List.mem_of_getElem? (i := 807) (by decide +kernel)
theorem wv_X4_signAt : Cond.instanceMethod yX4_signAt ∈ lw_tbl := List.mem_of_getElem? (i := 773) (by decide +kernel)
theorem wv_X5_become : Cond.instanceMethod yX5_become ∈ lw_tbl := List.mem_of_getElem? (i := 369) (by decide +kernel)
theorem wv_X5_changeSpeed : Cond.instanceMethod yX5_changeSpeed ∈ lw_tbl := List.mem_of_getElem? (i := 410) (by decide +kernel)
theorem wv_X5_init : Cond.instanceMethod yX5_init ∈ lw_tbl := List.mem_of_getElem? (i := 89) (by decide +kernel)
theorem wv_X5_isIn : Cond.instanceMethod yX5_isIn ∈ lw_tbl := List.mem_of_getElem? (i := 453) (by decide +kernel)
theorem wv_X5_numberOf : Cond.instanceMethod yX5_numberOf ∈ lw_tbl := List.mem_of_getElem? (i := 423) (by decide +kernel)
theorem wv_X5_positionAt : Cond.instanceMethod yX5_positionAt ∈ lw_tbl := List.mem_of_getElem? (i := 414) (by decide +kernel)
theorem wv_X6_countVotes : Cond.instanceMethod yX6_countVotes ∈ lw_tbl := List.mem_of_getElem? (i := 587) (by decide +kernel)
theorem wv_X6_init : Cond.instanceMethod yX6_init ∈ lw_tbl := List.mem_of_getElem? (i := 255) (by decide +kernel)
theorem wv_X6_mostVotes : Cond.instanceMethod yX6_mostVotes ∈ lw_tbl := List.mem_of_getElem? (i := 608) (by decide +kernel)
theorem wv_X6_readEdges : Cond.instanceMethod yX6_readEdges ∈ lw_tbl := List.mem_of_getElem? (i := 569) (by decide +kernel)
theorem wv_X6_readFirst : Cond.instanceMethod yX6_readFirst ∈ lw_tbl := List.mem_of_getElem? (i := 564) (by decide +kernel)
theorem wv_X6_readSecond : Cond.instanceMethod yX6_readSecond ∈ lw_tbl := List.mem_of_getElem? (i := 574) (by decide +kernel)
theorem wv_X6_told : Cond.instanceMethod yX6_told ∈ lw_tbl := List.mem_of_getElem? (i := 604) (by decide +kernel)
theorem wv_X6_voteOf : Cond.instanceMethod yX6_voteOf ∈ lw_tbl := List.mem_of_getElem? (i := 596) (by decide +kernel)
theorem wv_X6_voteOnShift : Cond.instanceMethod yX6_voteOnShift ∈ lw_tbl := List.mem_of_getElem? (i := 578) (by decide +kernel)
theorem wv_X6_voteOnSlant : Cond.instanceMethod yX6_voteOnSlant ∈ lw_tbl := List.mem_of_getElem? (i := 638) (by decide +kernel)
theorem wv_X6_votersAtAll : Cond.instanceMethod yX6_votersAtAll ∈ lw_tbl := List.mem_of_getElem? (i := 625) (by decide +kernel)
theorem wv_X6_votersFor : Cond.instanceMethod yX6_votersFor ∈ lw_tbl := List.mem_of_getElem? (i := 617) (by decide +kernel)
theorem wv_X6_weigh : Cond.instanceMethod yX6_weigh ∈ lw_tbl := List.mem_of_getElem? (i := 651) (by decide +kernel)
theorem wv_X7_darkPeriods : Cond.instanceMethod yX7_darkPeriods ∈ lw_tbl := List.mem_of_getElem? (i := 729) (by decide +kernel)
theorem wv_X7_edgeCountOf : Cond.instanceMethod yX7_edgeCountOf ∈ lw_tbl := List.mem_of_getElem? (i := 523) (by decide +kernel)
theorem wv_X7_isPair : Cond.instanceMethod yX7_isPair ∈ lw_tbl := List.mem_of_getElem? (i := 557) (by decide +kernel)
theorem wv_X7_isPlace : Cond.instanceMethod yX7_isPlace ∈ lw_tbl := List.mem_of_getElem? (i := 445) (by decide +kernel)
theorem wv_X7_periodsFitting : Cond.instanceMethod yX7_periodsFitting ∈ lw_tbl := List.mem_of_getElem? (i := 724) (by decide +kernel)
theorem wv_X7_recordState : Cond.instanceMethod yX7_recordState ∈ lw_tbl := List.mem_of_getElem? (i := 354) (by decide +kernel)
theorem wv_X7_rowFits : Cond.instanceMethod yX7_rowFits ∈ lw_tbl := List.mem_of_getElem? (i := 734) (by decide +kernel)
theorem wv_X7_voteOn : Cond.instanceMethod yX7_voteOn ∈ lw_tbl := List.mem_of_getElem? (i := 561) (by decide +kernel)
theorem wv_X8_allFit : Cond.instanceMethod yX8_allFit ∈ lw_tbl := List.mem_of_getElem? (i := 1118) (by decide +kernel)
theorem wv_X8_areFrames : Cond.instanceMethod yX8_areFrames ∈ lw_tbl := List.mem_of_getElem? (i := 1021) (by decide +kernel)
theorem wv_X8_counts : Cond.instanceMethod yX8_counts ∈ lw_tbl := List.mem_of_getElem? (i := 1054) (by decide +kernel)
theorem wv_X8_does : Cond.instanceMethod yX8_does ∈ lw_tbl := List.mem_of_getElem? (i := 1185) (by decide +kernel)
theorem wv_X8_done : Cond.instanceMethod yX8_done ∈ lw_tbl := List.mem_of_getElem? (i := 1154) (by decide +kernel)
theorem wv_X8_edgesAt : Cond.instanceMethod yX8_edgesAt ∈ lw_tbl := List.mem_of_getElem? (i := 1106) (by decide +kernel)
theorem wv_X8_edgesIn : Cond.instanceMethod yX8_edgesIn ∈ lw_tbl := List.mem_of_getElem? (i := 985) (by decide +kernel)
theorem wv_X8_faults : Cond.instanceMethod yX8_faults ∈ lw_tbl := List.mem_of_getElem? (i := 1158) (by decide +kernel)
theorem wv_X8_form : Cond.instanceMethod yX8_form ∈ lw_tbl := List.mem_of_getElem? (i := 1162) (by decide +kernel)
theorem wv_X8_frameValue : Cond.instanceMethod yX8_frameValue ∈ lw_tbl := List.mem_of_getElem? (i := 981) (by decide +kernel)
theorem wv_X8_isColumn : Cond.instanceMethod yX8_isColumn ∈ lw_tbl := List.mem_of_getElem? (i := 946) (by decide +kernel)
theorem wv_X8_isEdge : Cond.instanceMethod yX8_isEdge ∈ lw_tbl := List.mem_of_getElem? (i := 989) (by decide +kernel)
theorem wv_X8_isFrame : Cond.instanceMethod yX8_isFrame ∈ lw_tbl := List.mem_of_getElem? (i := 973) (by decide +kernel)
theorem wv_X8_isRow : Cond.instanceMethod yX8_isRow ∈ lw_tbl := List.mem_of_getElem? (i := 942) (by decide +kernel)
theorem wv_X8_isSeen : Cond.instanceMethod yX8_isSeen ∈ lw_tbl := List.mem_of_getElem? (i := 993) (by decide +kernel)
theorem wv_X8_isThing : Cond.instanceMethod yX8_isThing ∈ lw_tbl := List.mem_of_getElem? (i := 920) (by decide +kernel)
theorem wv_X8_look : Cond.instanceMethod yX8_look ∈ lw_tbl := List.mem_of_getElem? (i := 1166) (by decide +kernel)
theorem wv_X8_mostVoted : Cond.instanceMethod yX8_mostVoted ∈ lw_tbl := List.mem_of_getElem? (i := 1058) (by decide +kernel)
theorem wv_X8_noVotes : Cond.instanceMethod yX8_noVotes ∈ lw_tbl := List.mem_of_getElem? (i := 1046) (by decide +kernel)
theorem wv_X8_notes : Cond.instanceMethod yX8_notes ∈ lw_tbl := List.mem_of_getElem? (i := 897) (by decide +kernel)
theorem wv_X8_number : Cond.instanceMethod yX8_number ∈ lw_tbl := List.mem_of_getElem? (i := 1170) (by decide +kernel)
theorem wv_X8_pixelOf : Cond.instanceMethod yX8_pixelOf ∈ lw_tbl := List.mem_of_getElem? (i := 1000) (by decide +kernel)
theorem wv_X8_rowFits : Cond.instanceMethod yX8_rowFits ∈ lw_tbl := List.mem_of_getElem? (i := 1122) (by decide +kernel)
theorem wv_X8_sign : Cond.instanceMethod yX8_sign ∈ lw_tbl := List.mem_of_getElem? (i := 1174) (by decide +kernel)
theorem wv_X8_slantOf : Cond.instanceMethod yX8_slantOf ∈ lw_tbl := List.mem_of_getElem? (i := 1082) (by decide +kernel)
theorem wv_X8_toldBy : Cond.instanceMethod yX8_toldBy ∈ lw_tbl := List.mem_of_getElem? (i := 1042) (by decide +kernel)
theorem wv_X8_tries : Cond.instanceMethod yX8_tries ∈ lw_tbl := List.mem_of_getElem? (i := 1114) (by decide +kernel)
theorem wv_X8_voteOf : Cond.instanceMethod yX8_voteOf ∈ lw_tbl := List.mem_of_getElem? (i := 1025) (by decide +kernel)
theorem wv_X8_votersOf : Cond.instanceMethod yX8_votersOf ∈ lw_tbl := List.mem_of_getElem? (i := 1066) (by decide +kernel)
theorem wv_X8_weightOf : Cond.instanceMethod yX8_weightOf ∈ lw_tbl := List.mem_of_getElem? (i := 1050) (by decide +kernel)
theorem wv_X8_wrongIn : Cond.instanceMethod yX8_wrongIn ∈ lw_tbl := List.mem_of_getElem? (i := 1178) (by decide +kernel)
theorem wx_X0_become : Cond.selects RX0 yX0_become yX0_become ∈ lw_tbl := List.mem_of_getElem? (i := 382) (by decide +kernel)
theorem wx_X0_keepRow : Cond.selects RX0 yX0_keepRow yX0_keepRow ∈ lw_tbl := List.mem_of_getElem? (i := 508) (by decide +kernel)
theorem wx_X0_pixelAt : Cond.selects RX0 yX0_pixelAt yX0_pixelAt ∈ lw_tbl := List.mem_of_getElem? (i := 531) (by decide +kernel)
theorem wx_X1_addDemand : Cond.selects RX1 yX1_addDemand yX1_addDemand ∈ lw_tbl := List.mem_of_getElem? (i := 11) (by decide +kernel)
theorem wx_X1_answer : Cond.selects RX1 yX1_answer yX1_answer ∈ lw_tbl := List.mem_of_getElem? (i := 715) (by decide +kernel)
theorem wx_X1_gatherDemands : Cond.selects RX1 yX1_gatherDemands yX1_gatherDemands ∈ lw_tbl := List.mem_of_getElem? (i := 10) (by decide +kernel)
theorem wx_X1_isVain : Cond.selects RX1 yX1_isVain yX1_isVain ∈ lw_tbl := List.mem_of_getElem? (i := 711) (by decide +kernel)
theorem wx_X1_keepMotion : Cond.selects RX1 yX1_keepMotion yX1_keepMotion ∈ lw_tbl := List.mem_of_getElem? (i := 13) (by decide +kernel)
theorem wx_X1_meetsDemands : Cond.selects RX1 yX1_meetsDemands yX1_meetsDemands ∈ lw_tbl := List.mem_of_getElem? (i := 12) (by decide +kernel)
theorem wx_X1_run : Cond.selects RX1 yX1_run yX1_run ∈ lw_tbl := List.mem_of_getElem? (i := 679) (by decide +kernel)
theorem wx_X2_numberAt : Cond.selects RX2 yX2_numberAt yX2_numberAt ∈ lw_tbl := List.mem_of_getElem? (i := 800) (by decide +kernel)
theorem wx_X2_perform : Cond.selects RX2 yX2_perform yX2_perform ∈ lw_tbl := List.mem_of_getElem? (i := 818) (by decide +kernel)
theorem wx_X2_read : Cond.selects RX2 yX2_read yX2_read ∈ lw_tbl := List.mem_of_getElem? (i := 770) (by decide +kernel)
theorem wx_X2_readNumber : Cond.selects RX2 yX2_readNumber yX2_readNumber ∈ lw_tbl := List.mem_of_getElem? (i := 18) (by decide +kernel)
theorem wx_X2_readSign : Cond.selects RX2 yX2_readSign yX2_readSign ∈ lw_tbl := List.mem_of_getElem? (i := 17) (by decide +kernel)
theorem wx_X2_wrongNumber : Cond.selects RX2 yX2_wrongNumber yX2_wrongNumber ∈ lw_tbl := List.mem_of_getElem? (i := 796) (by decide +kernel)
theorem wx_X3_addThing : Cond.selects RX3 yX3_addThing yX3_addThing ∈ lw_tbl := List.mem_of_getElem? (i := 402) (by decide +kernel)
theorem wx_X3_become : Cond.selects RX3 yX3_become yX3_become ∈ lw_tbl := List.mem_of_getElem? (i := 358) (by decide +kernel)
theorem wx_X3_becomeInFrames : Cond.selects RX3 yX3_becomeInFrames yX3_becomeInFrames ∈ lw_tbl := List.mem_of_getElem? (i := 2) (by decide +kernel)
theorem wx_X3_becomeInThings : Cond.selects RX3 yX3_becomeInThings yX3_becomeInThings ∈ lw_tbl := List.mem_of_getElem? (i := 1) (by decide +kernel)
theorem wx_X3_changeSetting : Cond.selects RX3 yX3_changeSetting yX3_changeSetting ∈ lw_tbl := List.mem_of_getElem? (i := 390) (by decide +kernel)
theorem wx_X3_dropFrame : Cond.selects RX3 yX3_dropFrame yX3_dropFrame ∈ lw_tbl := List.mem_of_getElem? (i := 494) (by decide +kernel)
theorem wx_X3_edgesIn : Cond.selects RX3 yX3_edgesIn yX3_edgesIn ∈ lw_tbl := List.mem_of_getElem? (i := 527) (by decide +kernel)
theorem wx_X3_frameAt : Cond.selects RX3 yX3_frameAt yX3_frameAt ∈ lw_tbl := List.mem_of_getElem? (i := 378) (by decide +kernel)
theorem wx_X3_judgeRows : Cond.selects RX3 yX3_judgeRows yX3_judgeRows ∈ lw_tbl := List.mem_of_getElem? (i := 660) (by decide +kernel)
theorem wx_X3_paint : Cond.selects RX3 yX3_paint yX3_paint ∈ lw_tbl := List.mem_of_getElem? (i := 449) (by decide +kernel)
theorem wx_X3_paintOver : Cond.selects RX3 yX3_paintOver yX3_paintOver ∈ lw_tbl := List.mem_of_getElem? (i := 4) (by decide +kernel)
theorem wx_X3_percentAt : Cond.selects RX3 yX3_percentAt yX3_percentAt ∈ lw_tbl := List.mem_of_getElem? (i := 476) (by decide +kernel)
theorem wx_X3_photograph : Cond.selects RX3 yX3_photograph yX3_photograph ∈ lw_tbl := List.mem_of_getElem? (i := 498) (by decide +kernel)
theorem wx_X3_setting : Cond.selects RX3 yX3_setting yX3_setting ∈ lw_tbl := List.mem_of_getElem? (i := 386) (by decide +kernel)
theorem wx_X3_takeFrame : Cond.selects RX3 yX3_takeFrame yX3_takeFrame ∈ lw_tbl := List.mem_of_getElem? (i := 490) (by decide +kernel)
theorem wx_X3_thingAt : Cond.selects RX3 yX3_thingAt yX3_thingAt ∈ lw_tbl := List.mem_of_getElem? (i := 366) (by decide +kernel)
theorem wx_X3_timeOfRow : Cond.selects RX3 yX3_timeOfRow yX3_timeOfRow ∈ lw_tbl := List.mem_of_getElem? (i := 502) (by decide +kernel)
theorem wx_X3_weightOf : Cond.selects RX3 yX3_weightOf yX3_weightOf ∈ lw_tbl := List.mem_of_getElem? (i := 592) (by decide +kernel)
theorem wx_X4_append : Cond.selects RX4 yX4_append yX4_append ∈ lw_tbl := List.mem_of_getElem? (i := 754) (by decide +kernel)
theorem wx_X4_examine : Cond.selects RX4 yX4_examine yX4_examine ∈ lw_tbl := List.mem_of_getElem? (i := 766) (by decide +kernel)
theorem wx_X4_examineOrder : Cond.selects RX4 yX4_examineOrder yX4_examineOrder ∈ lw_tbl := List.mem_of_getElem? (i := 19) (by decide +kernel)
theorem wx_X4_isPossibleThen : Cond.selects RX4 yX4_isPossibleThen yX4_isPossibleThen ∈ lw_tbl := List.mem_of_getElem? (i := 20) (by decide +kernel)
theorem wx_X4_signAt : Cond.selects RX4 yX4_signAt yX4_signAt ∈ lw_tbl := List.mem_of_getElem? (i := 774) (by decide +kernel)
theorem wx_X5_become : Cond.selects RX5 yX5_become yX5_become ∈ lw_tbl := List.mem_of_getElem? (i := 370) (by decide +kernel)
theorem wx_X5_changeSpeed : Cond.selects RX5 yX5_changeSpeed yX5_changeSpeed ∈ lw_tbl := List.mem_of_getElem? (i := 411) (by decide +kernel)
theorem wx_X5_isIn : Cond.selects RX5 yX5_isIn yX5_isIn ∈ lw_tbl := List.mem_of_getElem? (i := 454) (by decide +kernel)
theorem wx_X5_numberOf : Cond.selects RX5 yX5_numberOf yX5_numberOf ∈ lw_tbl := List.mem_of_getElem? (i := 424) (by decide +kernel)
theorem wx_X5_positionAt : Cond.selects RX5 yX5_positionAt yX5_positionAt ∈ lw_tbl := List.mem_of_getElem? (i := 415) (by decide +kernel)
theorem wx_X6_countVotes : Cond.selects RX6 yX6_countVotes yX6_countVotes ∈ lw_tbl := List.mem_of_getElem? (i := 9) (by decide +kernel)
theorem wx_X6_mostVotes : Cond.selects RX6 yX6_mostVotes yX6_mostVotes ∈ lw_tbl := List.mem_of_getElem? (i := 609) (by decide +kernel)
theorem wx_X6_readEdges : Cond.selects RX6 yX6_readEdges yX6_readEdges ∈ lw_tbl := List.mem_of_getElem? (i := 8) (by decide +kernel)
theorem wx_X6_readFirst : Cond.selects RX6 yX6_readFirst yX6_readFirst ∈ lw_tbl := List.mem_of_getElem? (i := 565) (by decide +kernel)
theorem wx_X6_readSecond : Cond.selects RX6 yX6_readSecond yX6_readSecond ∈ lw_tbl := List.mem_of_getElem? (i := 575) (by decide +kernel)
theorem wx_X6_told : Cond.selects RX6 yX6_told yX6_told ∈ lw_tbl := List.mem_of_getElem? (i := 605) (by decide +kernel)
theorem wx_X6_voteOf : Cond.selects RX6 yX6_voteOf yX6_voteOf ∈ lw_tbl := List.mem_of_getElem? (i := 597) (by decide +kernel)
theorem wx_X6_voteOnShift : Cond.selects RX6 yX6_voteOnShift yX6_voteOnShift ∈ lw_tbl := List.mem_of_getElem? (i := 579) (by decide +kernel)
theorem wx_X6_voteOnSlant : Cond.selects RX6 yX6_voteOnSlant yX6_voteOnSlant ∈ lw_tbl := List.mem_of_getElem? (i := 639) (by decide +kernel)
theorem wx_X6_votersAtAll : Cond.selects RX6 yX6_votersAtAll yX6_votersAtAll ∈ lw_tbl := List.mem_of_getElem? (i := 626) (by decide +kernel)
theorem wx_X6_votersFor : Cond.selects RX6 yX6_votersFor yX6_votersFor ∈ lw_tbl := List.mem_of_getElem? (i := 618) (by decide +kernel)
theorem wx_X6_weigh : Cond.selects RX6 yX6_weigh yX6_weigh ∈ lw_tbl := List.mem_of_getElem? (i := 652) (by decide +kernel)
theorem wx_X7_darkPeriods : Cond.selects RX7 yX7_darkPeriods yX7_darkPeriods ∈ lw_tbl := List.mem_of_getElem? (i := 15) (by decide +kernel)
theorem wx_X7_edgeCountOf : Cond.selects RX7 yX7_edgeCountOf yX7_edgeCountOf ∈ lw_tbl := List.mem_of_getElem? (i := 5) (by decide +kernel)
theorem wx_X7_isPair : Cond.selects RX7 yX7_isPair yX7_isPair ∈ lw_tbl := List.mem_of_getElem? (i := 6) (by decide +kernel)
theorem wx_X7_isPlace : Cond.selects RX7 yX7_isPlace yX7_isPlace ∈ lw_tbl := List.mem_of_getElem? (i := 3) (by decide +kernel)
theorem wx_X7_periodsFitting : Cond.selects RX7 yX7_periodsFitting yX7_periodsFitting ∈ lw_tbl := List.mem_of_getElem? (i := 14) (by decide +kernel)
theorem wx_X7_recordState : Cond.selects RX7 yX7_recordState yX7_recordState ∈ lw_tbl := List.mem_of_getElem? (i := 0) (by decide +kernel)
theorem wx_X7_rowFits : Cond.selects RX7 yX7_rowFits yX7_rowFits ∈ lw_tbl := List.mem_of_getElem? (i := 16) (by decide +kernel)
theorem wx_X7_voteOn : Cond.selects RX7 yX7_voteOn yX7_voteOn ∈ lw_tbl := List.mem_of_getElem? (i := 7) (by decide +kernel)
theorem wx_X8_allFit : Cond.selects RX8 yX8_allFit yX8_allFit ∈ lw_tbl := List.mem_of_getElem? (i := 42) (by decide +kernel)
theorem wx_X8_areFrames : Cond.selects RX8 yX8_areFrames yX8_areFrames ∈ lw_tbl := List.mem_of_getElem? (i := 31) (by decide +kernel)
theorem wx_X8_counts : Cond.selects RX8 yX8_counts yX8_counts ∈ lw_tbl := List.mem_of_getElem? (i := 36) (by decide +kernel)
theorem wx_X8_does : Cond.selects RX8 yX8_does yX8_does ∈ lw_tbl := List.mem_of_getElem? (i := 51) (by decide +kernel)
theorem wx_X8_done : Cond.selects RX8 yX8_done yX8_done ∈ lw_tbl := List.mem_of_getElem? (i := 44) (by decide +kernel)
theorem wx_X8_edgesAt : Cond.selects RX8 yX8_edgesAt yX8_edgesAt ∈ lw_tbl := List.mem_of_getElem? (i := 40) (by decide +kernel)
theorem wx_X8_edgesIn : Cond.selects RX8 yX8_edgesIn yX8_edgesIn ∈ lw_tbl := List.mem_of_getElem? (i := 27) (by decide +kernel)
theorem wx_X8_faults : Cond.selects RX8 yX8_faults yX8_faults ∈ lw_tbl := List.mem_of_getElem? (i := 45) (by decide +kernel)
theorem wx_X8_form : Cond.selects RX8 yX8_form yX8_form ∈ lw_tbl := List.mem_of_getElem? (i := 46) (by decide +kernel)
theorem wx_X8_frameValue : Cond.selects RX8 yX8_frameValue yX8_frameValue ∈ lw_tbl := List.mem_of_getElem? (i := 26) (by decide +kernel)
theorem wx_X8_isColumn : Cond.selects RX8 yX8_isColumn yX8_isColumn ∈ lw_tbl := List.mem_of_getElem? (i := 24) (by decide +kernel)
theorem wx_X8_isEdge : Cond.selects RX8 yX8_isEdge yX8_isEdge ∈ lw_tbl := List.mem_of_getElem? (i := 28) (by decide +kernel)
theorem wx_X8_isFrame : Cond.selects RX8 yX8_isFrame yX8_isFrame ∈ lw_tbl := List.mem_of_getElem? (i := 25) (by decide +kernel)
theorem wx_X8_isRow : Cond.selects RX8 yX8_isRow yX8_isRow ∈ lw_tbl := List.mem_of_getElem? (i := 23) (by decide +kernel)
theorem wx_X8_isSeen : Cond.selects RX8 yX8_isSeen yX8_isSeen ∈ lw_tbl := List.mem_of_getElem? (i := 29) (by decide +kernel)
theorem wx_X8_isThing : Cond.selects RX8 yX8_isThing yX8_isThing ∈ lw_tbl := List.mem_of_getElem? (i := 22) (by decide +kernel)
theorem wx_X8_look : Cond.selects RX8 yX8_look yX8_look ∈ lw_tbl := List.mem_of_getElem? (i := 47) (by decide +kernel)
theorem wx_X8_mostVoted : Cond.selects RX8 yX8_mostVoted yX8_mostVoted ∈ lw_tbl := List.mem_of_getElem? (i := 37) (by decide +kernel)
theorem wx_X8_noVotes : Cond.selects RX8 yX8_noVotes yX8_noVotes ∈ lw_tbl := List.mem_of_getElem? (i := 34) (by decide +kernel)
theorem wx_X8_notes : Cond.selects RX8 yX8_notes yX8_notes ∈ lw_tbl := List.mem_of_getElem? (i := 21) (by decide +kernel)
theorem wx_X8_number : Cond.selects RX8 yX8_number yX8_number ∈ lw_tbl := List.mem_of_getElem? (i := 48) (by decide +kernel)
theorem wx_X8_pixelOf : Cond.selects RX8 yX8_pixelOf yX8_pixelOf ∈ lw_tbl := List.mem_of_getElem? (i := 30) (by decide +kernel)
theorem wx_X8_rowFits : Cond.selects RX8 yX8_rowFits yX8_rowFits ∈ lw_tbl := List.mem_of_getElem? (i := 43) (by decide +kernel)
theorem wx_X8_sign : Cond.selects RX8 yX8_sign yX8_sign ∈ lw_tbl := List.mem_of_getElem? (i := 49) (by decide +kernel)
theorem wx_X8_slantOf : Cond.selects RX8 yX8_slantOf yX8_slantOf ∈ lw_tbl := List.mem_of_getElem? (i := 39) (by decide +kernel)
theorem wx_X8_toldBy : Cond.selects RX8 yX8_toldBy yX8_toldBy ∈ lw_tbl := List.mem_of_getElem? (i := 33) (by decide +kernel)
theorem wx_X8_tries : Cond.selects RX8 yX8_tries yX8_tries ∈ lw_tbl := List.mem_of_getElem? (i := 41) (by decide +kernel)
theorem wx_X8_voteOf : Cond.selects RX8 yX8_voteOf yX8_voteOf ∈ lw_tbl := List.mem_of_getElem? (i := 32) (by decide +kernel)
theorem wx_X8_votersOf : Cond.selects RX8 yX8_votersOf yX8_votersOf ∈ lw_tbl := List.mem_of_getElem? (i := 38) (by decide +kernel)
theorem wx_X8_weightOf : Cond.selects RX8 yX8_weightOf yX8_weightOf ∈ lw_tbl := List.mem_of_getElem? (i := 35) (by decide +kernel)
theorem wx_X8_wrongIn : Cond.selects RX8 yX8_wrongIn yX8_wrongIn ∈ lw_tbl := List.mem_of_getElem? (i := 50) (by decide +kernel)
theorem wz_RJ6 : Cond.initialized RJ6 ∈ lw_tbl := List.mem_of_getElem? (i := 62) (by decide +kernel)
theorem wz_RJ9 : Cond.initialized RJ9 ∈ lw_tbl := List.mem_of_getElem? (i := 63) (by decide +kernel)
theorem wz_RX0 : Cond.initialized RX0 ∈ lw_tbl := List.mem_of_getElem? (i := 56) (by decide +kernel)
theorem wz_RX1 : Cond.initialized RX1 ∈ lw_tbl := List.mem_of_getElem? (i := 60) (by decide +kernel)
theorem wz_RX2 : Cond.initialized RX2 ∈ lw_tbl := List.mem_of_getElem? (i := 58) (by decide +kernel)
theorem wz_RX3 : Cond.initialized RX3 ∈ lw_tbl := List.mem_of_getElem? (i := 54) (by decide +kernel)
theorem wz_RX4 : Cond.initialized RX4 ∈ lw_tbl := List.mem_of_getElem? (i := 57) (by decide +kernel)
theorem wz_RX5 : Cond.initialized RX5 ∈ lw_tbl := List.mem_of_getElem? (i := 55) (by decide +kernel)
theorem wz_RX6 : Cond.initialized RX6 ∈ lw_tbl := List.mem_of_getElem? (i := 59) (by decide +kernel)
theorem wz_RX7 : Cond.initialized RX7 ∈ lw_tbl := List.mem_of_getElem? (i := 53) (by decide +kernel)
theorem wz_RX8 : Cond.initialized RX8 ∈ lw_tbl := List.mem_of_getElem? (i := 61) (by decide +kernel)
theorem fl_RX0_9 : FL RX0 9 0 2 := ⟨_, rfl, by decide, List.mem_of_getElem? (i := 132) (by decide +kernel)⟩
theorem fl_RX0_15 : FL RX0 15 0 0 := ⟨_, rfl, by decide, List.mem_of_getElem? (i := 125) (by decide +kernel)⟩
theorem fl_RX0_19 : FL RX0 19 0 1 := ⟨_, rfl, by decide, List.mem_of_getElem? (i := 128) (by decide +kernel)⟩
theorem fl_RX1_9 : FL RX1 9 1 0 := ⟨_, rfl, by decide, List.mem_of_getElem? (i := 277) (by decide +kernel)⟩
theorem fl_RX1_15 : FL RX1 15 1 1 := ⟨_, rfl, by decide, List.mem_of_getElem? (i := 278) (by decide +kernel)⟩
theorem fl_RX1_18 : FL RX1 18 1 2 := ⟨_, rfl, by decide, List.mem_of_getElem? (i := 279) (by decide +kernel)⟩
theorem fl_RX1_21 : FL RX1 21 1 4 := ⟨_, rfl, by decide, List.mem_of_getElem? (i := 281) (by decide +kernel)⟩
theorem fl_RX1_24 : FL RX1 24 1 5 := ⟨_, rfl, by decide, List.mem_of_getElem? (i := 282) (by decide +kernel)⟩
theorem fl_RX1_33 : FL RX1 33 1 6 := ⟨_, rfl, by decide, List.mem_of_getElem? (i := 283) (by decide +kernel)⟩
theorem fl_RX1_41 : FL RX1 41 5 4 := ⟨_, rfl, by decide, List.mem_of_getElem? (i := 102) (by decide +kernel)⟩
theorem fl_RX1_54 : FL RX1 54 1 7 := ⟨_, rfl, by decide, List.mem_of_getElem? (i := 284) (by decide +kernel)⟩
theorem fl_RX1_57 : FL RX1 57 1 8 := ⟨_, rfl, by decide, List.mem_of_getElem? (i := 285) (by decide +kernel)⟩
theorem fl_RX1_60 : FL RX1 60 1 9 := ⟨_, rfl, by decide, List.mem_of_getElem? (i := 286) (by decide +kernel)⟩
theorem fl_RX1_63 : FL RX1 63 1 10 := ⟨_, rfl, by decide, List.mem_of_getElem? (i := 287) (by decide +kernel)⟩
theorem fl_RX1_66 : FL RX1 66 1 3 := ⟨_, rfl, by decide, List.mem_of_getElem? (i := 280) (by decide +kernel)⟩
theorem fl_RX1_69 : FL RX1 69 3 4 := ⟨_, rfl, by decide, List.mem_of_getElem? (i := 148) (by decide +kernel)⟩
theorem fl_RX1_80 : FL RX1 80 0 1 := ⟨_, rfl, by decide, List.mem_of_getElem? (i := 129) (by decide +kernel)⟩
theorem fl_RX2_9 : FL RX2 9 2 1 := ⟨_, rfl, by decide, List.mem_of_getElem? (i := 199) (by decide +kernel)⟩
theorem fl_RX2_21 : FL RX2 21 2 0 := ⟨_, rfl, by decide, List.mem_of_getElem? (i := 197) (by decide +kernel)⟩
theorem fl_RX2_29 : FL RX2 29 2 3 := ⟨_, rfl, by decide, List.mem_of_getElem? (i := 203) (by decide +kernel)⟩
theorem fl_RX2_33 : FL RX2 33 2 2 := ⟨_, rfl, by decide, List.mem_of_getElem? (i := 200) (by decide +kernel)⟩
theorem fl_RX2_71 : FL RX2 71 3 6 := ⟨_, rfl, by decide, List.mem_of_getElem? (i := 154) (by decide +kernel)⟩
theorem fl_RX2_78 : FL RX2 78 3 7 := ⟨_, rfl, by decide, List.mem_of_getElem? (i := 158) (by decide +kernel)⟩
theorem fl_RX3_9 : FL RX3 9 3 0 := ⟨_, rfl, by decide, List.mem_of_getElem? (i := 140) (by decide +kernel)⟩
theorem fl_RX3_17 : FL RX3 17 3 1 := ⟨_, rfl, by decide, List.mem_of_getElem? (i := 141) (by decide +kernel)⟩
theorem fl_RX3_23 : FL RX3 23 3 3 := ⟨_, rfl, by decide, List.mem_of_getElem? (i := 145) (by decide +kernel)⟩
theorem fl_RX3_27 : FL RX3 27 3 8 := ⟨_, rfl, by decide, List.mem_of_getElem? (i := 159) (by decide +kernel)⟩
theorem fl_RX3_30 : FL RX3 30 3 9 := ⟨_, rfl, by decide, List.mem_of_getElem? (i := 161) (by decide +kernel)⟩
theorem fl_RX3_49 : FL RX3 49 3 6 := ⟨_, rfl, by decide, List.mem_of_getElem? (i := 151) (by decide +kernel)⟩
theorem fl_RX3_53 : FL RX3 53 3 7 := ⟨_, rfl, by decide, List.mem_of_getElem? (i := 155) (by decide +kernel)⟩
theorem fl_RX3_56 : FL RX3 56 3 2 := ⟨_, rfl, by decide, List.mem_of_getElem? (i := 142) (by decide +kernel)⟩
theorem fl_RX3_67 : FL RX3 67 3 4 := ⟨_, rfl, by decide, List.mem_of_getElem? (i := 147) (by decide +kernel)⟩
theorem fl_RX3_70 : FL RX3 70 3 5 := ⟨_, rfl, by decide, List.mem_of_getElem? (i := 149) (by decide +kernel)⟩
theorem fl_RX3_80 : FL RX3 80 5 0 := ⟨_, rfl, by decide, List.mem_of_getElem? (i := 93) (by decide +kernel)⟩
theorem fl_RX3_83 : FL RX3 83 5 1 := ⟨_, rfl, by decide, List.mem_of_getElem? (i := 95) (by decide +kernel)⟩
theorem fl_RX3_86 : FL RX3 86 5 2 := ⟨_, rfl, by decide, List.mem_of_getElem? (i := 97) (by decide +kernel)⟩
theorem fl_RX3_89 : FL RX3 89 5 3 := ⟨_, rfl, by decide, List.mem_of_getElem? (i := 100) (by decide +kernel)⟩
theorem fl_RX3_92 : FL RX3 92 5 4 := ⟨_, rfl, by decide, List.mem_of_getElem? (i := 103) (by decide +kernel)⟩
theorem fl_RX3_95 : FL RX3 95 5 5 := ⟨_, rfl, by decide, List.mem_of_getElem? (i := 105) (by decide +kernel)⟩
theorem fl_RX3_110 : FL RX3 110 0 0 := ⟨_, rfl, by decide, List.mem_of_getElem? (i := 127) (by decide +kernel)⟩
theorem fl_RX3_111 : FL RX3 111 0 1 := ⟨_, rfl, by decide, List.mem_of_getElem? (i := 131) (by decide +kernel)⟩
theorem fl_RX4_9 : FL RX4 9 4 0 := ⟨_, rfl, by decide, List.mem_of_getElem? (i := 215) (by decide +kernel)⟩
theorem fl_RX4_18 : FL RX4 18 4 2 := ⟨_, rfl, by decide, List.mem_of_getElem? (i := 218) (by decide +kernel)⟩
theorem fl_RX4_22 : FL RX4 22 4 1 := ⟨_, rfl, by decide, List.mem_of_getElem? (i := 216) (by decide +kernel)⟩
theorem fl_RX4_26 : FL RX4 26 3 2 := ⟨_, rfl, by decide, List.mem_of_getElem? (i := 144) (by decide +kernel)⟩
theorem fl_RX4_31 : FL RX4 31 4 7 := ⟨_, rfl, by decide, List.mem_of_getElem? (i := 228) (by decide +kernel)⟩
theorem fl_RX4_34 : FL RX4 34 3 6 := ⟨_, rfl, by decide, List.mem_of_getElem? (i := 152) (by decide +kernel)⟩
theorem fl_RX4_37 : FL RX4 37 4 8 := ⟨_, rfl, by decide, List.mem_of_getElem? (i := 229) (by decide +kernel)⟩
theorem fl_RX4_40 : FL RX4 40 3 7 := ⟨_, rfl, by decide, List.mem_of_getElem? (i := 156) (by decide +kernel)⟩
theorem fl_RX4_43 : FL RX4 43 4 9 := ⟨_, rfl, by decide, List.mem_of_getElem? (i := 230) (by decide +kernel)⟩
theorem fl_RX4_46 : FL RX4 46 4 3 := ⟨_, rfl, by decide, List.mem_of_getElem? (i := 220) (by decide +kernel)⟩
theorem fl_RX4_49 : FL RX4 49 4 4 := ⟨_, rfl, by decide, List.mem_of_getElem? (i := 222) (by decide +kernel)⟩
theorem fl_RX4_52 : FL RX4 52 4 5 := ⟨_, rfl, by decide, List.mem_of_getElem? (i := 224) (by decide +kernel)⟩
theorem fl_RX4_62 : FL RX4 62 2 2 := ⟨_, rfl, by decide, List.mem_of_getElem? (i := 201) (by decide +kernel)⟩
theorem fl_RX4_65 : FL RX4 65 2 3 := ⟨_, rfl, by decide, List.mem_of_getElem? (i := 204) (by decide +kernel)⟩
theorem fl_RX4_69 : FL RX4 69 4 6 := ⟨_, rfl, by decide, List.mem_of_getElem? (i := 226) (by decide +kernel)⟩
theorem fl_RX4_88 : FL RX4 88 2 0 := ⟨_, rfl, by decide, List.mem_of_getElem? (i := 198) (by decide +kernel)⟩
theorem fl_RX5_7 : FL RX5 7 5 0 := ⟨_, rfl, by decide, List.mem_of_getElem? (i := 92) (by decide +kernel)⟩
theorem fl_RX5_13 : FL RX5 13 5 1 := ⟨_, rfl, by decide, List.mem_of_getElem? (i := 94) (by decide +kernel)⟩
theorem fl_RX5_16 : FL RX5 16 5 2 := ⟨_, rfl, by decide, List.mem_of_getElem? (i := 96) (by decide +kernel)⟩
theorem fl_RX5_19 : FL RX5 19 5 3 := ⟨_, rfl, by decide, List.mem_of_getElem? (i := 98) (by decide +kernel)⟩
theorem fl_RX5_22 : FL RX5 22 5 4 := ⟨_, rfl, by decide, List.mem_of_getElem? (i := 101) (by decide +kernel)⟩
theorem fl_RX5_25 : FL RX5 25 5 5 := ⟨_, rfl, by decide, List.mem_of_getElem? (i := 104) (by decide +kernel)⟩
theorem fl_RX6_9 : FL RX6 9 6 0 := ⟨_, rfl, by decide, List.mem_of_getElem? (i := 258) (by decide +kernel)⟩
theorem fl_RX6_15 : FL RX6 15 6 1 := ⟨_, rfl, by decide, List.mem_of_getElem? (i := 259) (by decide +kernel)⟩
theorem fl_RX6_18 : FL RX6 18 6 2 := ⟨_, rfl, by decide, List.mem_of_getElem? (i := 260) (by decide +kernel)⟩
theorem fl_RX6_21 : FL RX6 21 6 3 := ⟨_, rfl, by decide, List.mem_of_getElem? (i := 261) (by decide +kernel)⟩
theorem fl_RX7_12 : FL RX7 12 7 0 := ⟨_, rfl, by decide, List.mem_of_getElem? (i := 313) (by decide +kernel)⟩
theorem fl_RX7_16 : FL RX7 16 7 1 := ⟨_, rfl, by decide, List.mem_of_getElem? (i := 314) (by decide +kernel)⟩
theorem fl_RX7_20 : FL RX7 20 7 2 := ⟨_, rfl, by decide, List.mem_of_getElem? (i := 315) (by decide +kernel)⟩
theorem fl_RX7_27 : FL RX7 27 7 3 := ⟨_, rfl, by decide, List.mem_of_getElem? (i := 316) (by decide +kernel)⟩
theorem fl_RX7_34 : FL RX7 34 7 4 := ⟨_, rfl, by decide, List.mem_of_getElem? (i := 317) (by decide +kernel)⟩
theorem fl_RX7_41 : FL RX7 41 7 5 := ⟨_, rfl, by decide, List.mem_of_getElem? (i := 318) (by decide +kernel)⟩
theorem fl_RX7_48 : FL RX7 48 7 6 := ⟨_, rfl, by decide, List.mem_of_getElem? (i := 319) (by decide +kernel)⟩
theorem fl_RX7_52 : FL RX7 52 7 7 := ⟨_, rfl, by decide, List.mem_of_getElem? (i := 320) (by decide +kernel)⟩
theorem fl_RX7_71 : FL RX7 71 3 4 := ⟨_, rfl, by decide, List.mem_of_getElem? (i := 146) (by decide +kernel)⟩
theorem fl_RX7_90 : FL RX7 90 3 2 := ⟨_, rfl, by decide, List.mem_of_getElem? (i := 143) (by decide +kernel)⟩
theorem fl_RX7_102 : FL RX7 102 5 3 := ⟨_, rfl, by decide, List.mem_of_getElem? (i := 99) (by decide +kernel)⟩
theorem fl_RX7_107 : FL RX7 107 3 6 := ⟨_, rfl, by decide, List.mem_of_getElem? (i := 153) (by decide +kernel)⟩
theorem fl_RX7_119 : FL RX7 119 3 7 := ⟨_, rfl, by decide, List.mem_of_getElem? (i := 157) (by decide +kernel)⟩
theorem fl_RX7_157 : FL RX7 157 0 0 := ⟨_, rfl, by decide, List.mem_of_getElem? (i := 126) (by decide +kernel)⟩
theorem fl_RX7_158 : FL RX7 158 0 1 := ⟨_, rfl, by decide, List.mem_of_getElem? (i := 130) (by decide +kernel)⟩
theorem fl_RX7_204 : FL RX7 204 3 8 := ⟨_, rfl, by decide, List.mem_of_getElem? (i := 160) (by decide +kernel)⟩
theorem fl_RX7_207 : FL RX7 207 3 9 := ⟨_, rfl, by decide, List.mem_of_getElem? (i := 162) (by decide +kernel)⟩
theorem fl_RX7_248 : FL RX7 248 3 5 := ⟨_, rfl, by decide, List.mem_of_getElem? (i := 150) (by decide +kernel)⟩
theorem fl_RX7_254 : FL RX7 254 4 1 := ⟨_, rfl, by decide, List.mem_of_getElem? (i := 217) (by decide +kernel)⟩
theorem fl_RX7_267 : FL RX7 267 4 5 := ⟨_, rfl, by decide, List.mem_of_getElem? (i := 225) (by decide +kernel)⟩
theorem fl_RX7_270 : FL RX7 270 4 4 := ⟨_, rfl, by decide, List.mem_of_getElem? (i := 223) (by decide +kernel)⟩
theorem fl_RX7_273 : FL RX7 273 4 6 := ⟨_, rfl, by decide, List.mem_of_getElem? (i := 227) (by decide +kernel)⟩
theorem fl_RX7_276 : FL RX7 276 4 2 := ⟨_, rfl, by decide, List.mem_of_getElem? (i := 219) (by decide +kernel)⟩
theorem fl_RX7_280 : FL RX7 280 4 3 := ⟨_, rfl, by decide, List.mem_of_getElem? (i := 221) (by decide +kernel)⟩
theorem fl_RX7_293 : FL RX7 293 2 2 := ⟨_, rfl, by decide, List.mem_of_getElem? (i := 202) (by decide +kernel)⟩
theorem fl_RX8_7 : FL RX8 7 8 0 := ⟨_, rfl, by decide, List.mem_of_getElem? (i := 828) (by decide +kernel)⟩
theorem fl_RX8_13 : FL RX8 13 8 1 := ⟨_, rfl, by decide, List.mem_of_getElem? (i := 829) (by decide +kernel)⟩
theorem fl_RX8_16 : FL RX8 16 8 3 := ⟨_, rfl, by decide, List.mem_of_getElem? (i := 831) (by decide +kernel)⟩
theorem fl_RX8_19 : FL RX8 19 8 4 := ⟨_, rfl, by decide, List.mem_of_getElem? (i := 832) (by decide +kernel)⟩
theorem fl_RX8_22 : FL RX8 22 8 6 := ⟨_, rfl, by decide, List.mem_of_getElem? (i := 834) (by decide +kernel)⟩
theorem fl_RX8_25 : FL RX8 25 8 13 := ⟨_, rfl, by decide, List.mem_of_getElem? (i := 841) (by decide +kernel)⟩
theorem fl_RX8_28 : FL RX8 28 8 2 := ⟨_, rfl, by decide, List.mem_of_getElem? (i := 830) (by decide +kernel)⟩
theorem fl_RX8_168 : FL RX8 168 8 7 := ⟨_, rfl, by decide, List.mem_of_getElem? (i := 835) (by decide +kernel)⟩
theorem fl_RX8_175 : FL RX8 175 8 8 := ⟨_, rfl, by decide, List.mem_of_getElem? (i := 836) (by decide +kernel)⟩
theorem fl_RX8_178 : FL RX8 178 8 9 := ⟨_, rfl, by decide, List.mem_of_getElem? (i := 837) (by decide +kernel)⟩
theorem fl_RX8_181 : FL RX8 181 8 10 := ⟨_, rfl, by decide, List.mem_of_getElem? (i := 838) (by decide +kernel)⟩
theorem fl_RX8_184 : FL RX8 184 8 11 := ⟨_, rfl, by decide, List.mem_of_getElem? (i := 839) (by decide +kernel)⟩
theorem fl_RX8_191 : FL RX8 191 8 5 := ⟨_, rfl, by decide, List.mem_of_getElem? (i := 833) (by decide +kernel)⟩
theorem fl_RX8_194 : FL RX8 194 8 12 := ⟨_, rfl, by decide, List.mem_of_getElem? (i := 840) (by decide +kernel)⟩
theorem fl_RX8_197 : FL RX8 197 8 14 := ⟨_, rfl, by decide, List.mem_of_getElem? (i := 842) (by decide +kernel)⟩
theorem fl_RX8_209 : FL RX8 209 8 15 := ⟨_, rfl, by decide, List.mem_of_getElem? (i := 843) (by decide +kernel)⟩
theorem fl_RX8_212 : FL RX8 212 8 16 := ⟨_, rfl, by decide, List.mem_of_getElem? (i := 844) (by decide +kernel)⟩
theorem fl_RX8_215 : FL RX8 215 8 17 := ⟨_, rfl, by decide, List.mem_of_getElem? (i := 845) (by decide +kernel)⟩
theorem ms_J6_bitCount_0f7a4 : MSs yJ6_bitCount_0f7a4 cJ6_bitCount_0f7a4 1 (some .int) 1 := ⟨⟨⟨wd_J6_bitCount_0f7a4, wz_RJ6⟩, by decide, by decide, by decide +kernel⟩, wt_J6_bitCount_0f7a4⟩
theorem ms_J9_abs_0f7a4 : MSs yJ9_abs_0f7a4 cJ9_abs_0f7a4 1 (some .int) 1 := ⟨⟨⟨wd_J9_abs_0f7a4, wz_RJ9⟩, by decide, by decide, by decide +kernel⟩, wt_J9_abs_0f7a4⟩
theorem ms_J9_floorDiv_7cf53 : MSs yJ9_floorDiv_7cf53 cJ9_floorDiv_7cf53 3 (some .int) 2 := ⟨⟨⟨wd_J9_floorDiv_7cf53, wz_RJ9⟩, by decide, by decide, by decide +kernel⟩, wt_J9_floorDiv_7cf53⟩
theorem ms_J9_max_7cf53 : MSs yJ9_max_7cf53 cJ9_max_7cf53 2 (some .int) 2 := ⟨⟨⟨wd_J9_max_7cf53, wz_RJ9⟩, by decide, by decide, by decide +kernel⟩, wt_J9_max_7cf53⟩
theorem ms_J9_min_7cf53 : MSs yJ9_min_7cf53 cJ9_min_7cf53 2 (some .int) 2 := ⟨⟨⟨wd_J9_min_7cf53, wz_RJ9⟩, by decide, by decide, by decide +kernel⟩, wt_J9_min_7cf53⟩
theorem mv_X0_become : MSv 0 yX0_become cX0_become 3 none 1 := ⟨_, rfl, rfl, ⟨⟨wd_X0_become, wz_RX0⟩, by decide, by decide, by decide +kernel⟩, wv_X0_become, wx_X0_become⟩
theorem mi_X0_init : MSi 0 yX0_init cX0_init 1 0 := ⟨_, rfl, ⟨⟨wd_X0_init, wz_RX0⟩, by decide, by decide, by decide +kernel⟩, wv_X0_init, rfl⟩
theorem mv_X0_keepRow : MSv 0 yX0_keepRow cX0_keepRow 7 none 3 := ⟨_, rfl, rfl, ⟨⟨wd_X0_keepRow, wz_RX0⟩, by decide, by decide, by decide +kernel⟩, wv_X0_keepRow, wx_X0_keepRow⟩
theorem mv_X0_pixelAt : MSv 0 yX0_pixelAt cX0_pixelAt 3 (some .int) 2 := ⟨_, rfl, rfl, ⟨⟨wd_X0_pixelAt, wz_RX0⟩, by decide, by decide, by decide +kernel⟩, wv_X0_pixelAt, wx_X0_pixelAt⟩
theorem mv_X1_addDemand : MSv 1 yX1_addDemand cX1_addDemand 11 none 4 := ⟨_, rfl, rfl, ⟨⟨wd_X1_addDemand, wz_RX1⟩, by decide, by decide, by decide +kernel⟩, wv_X1_addDemand, wx_X1_addDemand⟩
theorem mv_X1_answer : MSv 1 yX1_answer cX1_answer 2 (some .int) 1 := ⟨_, rfl, rfl, ⟨⟨wd_X1_answer, wz_RX1⟩, by decide, by decide, by decide +kernel⟩, wv_X1_answer, wx_X1_answer⟩
theorem mv_X1_gatherDemands : MSv 1 yX1_gatherDemands cX1_gatherDemands 6 none 2 := ⟨_, rfl, rfl, ⟨⟨wd_X1_gatherDemands, wz_RX1⟩, by decide, by decide, by decide +kernel⟩, wv_X1_gatherDemands, wx_X1_gatherDemands⟩
theorem mi_X1_init : MSi 1 yX1_init cX1_init 1 0 := ⟨_, rfl, ⟨⟨wd_X1_init, wz_RX1⟩, by decide, by decide, by decide +kernel⟩, wv_X1_init, rfl⟩
theorem mv_X1_isVain : MSv 1 yX1_isVain cX1_isVain 1 (some .boolean) 0 := ⟨_, rfl, rfl, ⟨⟨wd_X1_isVain, wz_RX1⟩, by decide, by decide, by decide +kernel⟩, wv_X1_isVain, wx_X1_isVain⟩
theorem mv_X1_keepMotion : MSv 1 yX1_keepMotion cX1_keepMotion 3 none 2 := ⟨_, rfl, rfl, ⟨⟨wd_X1_keepMotion, wz_RX1⟩, by decide, by decide, by decide +kernel⟩, wv_X1_keepMotion, wx_X1_keepMotion⟩
theorem mv_X1_meetsDemands : MSv 1 yX1_meetsDemands cX1_meetsDemands 6 (some .boolean) 3 := ⟨_, rfl, rfl, ⟨⟨wd_X1_meetsDemands, wz_RX1⟩, by decide, by decide, by decide +kernel⟩, wv_X1_meetsDemands, wx_X1_meetsDemands⟩
theorem mv_X1_run : MSv 1 yX1_run cX1_run 6 none 2 := ⟨_, rfl, rfl, ⟨⟨wd_X1_run, wz_RX1⟩, by decide, by decide, by decide +kernel⟩, wv_X1_run, wx_X1_run⟩
theorem mi_X2_init : MSi 2 yX2_init cX2_init 1 0 := ⟨_, rfl, ⟨⟨wd_X2_init, wz_RX2⟩, by decide, by decide, by decide +kernel⟩, wv_X2_init, rfl⟩
theorem ms_X2_isDigit : MSs yX2_isDigit cX2_isDigit 1 (some .boolean) 1 := ⟨⟨⟨wd_X2_isDigit, wz_RX2⟩, by decide, by decide, by decide +kernel⟩, wt_X2_isDigit⟩
theorem mv_X2_numberAt : MSv 2 yX2_numberAt cX2_numberAt 2 (some .int) 1 := ⟨_, rfl, rfl, ⟨⟨wd_X2_numberAt, wz_RX2⟩, by decide, by decide, by decide +kernel⟩, wv_X2_numberAt, wx_X2_numberAt⟩
theorem ms_X2_numbersBehind : MSs yX2_numbersBehind cX2_numbersBehind 1 (some .int) 1 := ⟨⟨⟨wd_X2_numbersBehind, wz_RX2⟩, by decide, by decide, by decide +kernel⟩, wt_X2_numbersBehind⟩
theorem mv_X2_perform : MSv 2 yX2_perform cX2_perform 3 none 2 := ⟨_, rfl, rfl, ⟨⟨wd_X2_perform, wz_RX2⟩, by decide, by decide, by decide +kernel⟩, wv_X2_perform, wx_X2_perform⟩
theorem mv_X2_read : MSv 2 yX2_read cX2_read 5 none 2 := ⟨_, rfl, rfl, ⟨⟨wd_X2_read, wz_RX2⟩, by decide, by decide, by decide +kernel⟩, wv_X2_read, wx_X2_read⟩
theorem mv_X2_readNumber : MSv 2 yX2_readNumber cX2_readNumber 6 none 2 := ⟨_, rfl, rfl, ⟨⟨wd_X2_readNumber, wz_RX2⟩, by decide, by decide, by decide +kernel⟩, wv_X2_readNumber, wx_X2_readNumber⟩
theorem mv_X2_readSign : MSv 2 yX2_readSign cX2_readSign 3 none 2 := ⟨_, rfl, rfl, ⟨⟨wd_X2_readSign, wz_RX2⟩, by decide, by decide, by decide +kernel⟩, wv_X2_readSign, wx_X2_readSign⟩
theorem mv_X2_wrongNumber : MSv 2 yX2_wrongNumber cX2_wrongNumber 1 (some .int) 0 := ⟨_, rfl, rfl, ⟨⟨wd_X2_wrongNumber, wz_RX2⟩, by decide, by decide, by decide +kernel⟩, wv_X2_wrongNumber, wx_X2_wrongNumber⟩
theorem mv_X3_addThing : MSv 3 yX3_addThing cX3_addThing 8 none 6 := ⟨_, rfl, rfl, ⟨⟨wd_X3_addThing, wz_RX3⟩, by decide, by decide, by decide +kernel⟩, wv_X3_addThing, wx_X3_addThing⟩
theorem mv_X3_become : MSv 3 yX3_become cX3_become 3 none 1 := ⟨_, rfl, rfl, ⟨⟨wd_X3_become, wz_RX3⟩, by decide, by decide, by decide +kernel⟩, wv_X3_become, wx_X3_become⟩
theorem mv_X3_becomeInFrames : MSv 3 yX3_becomeInFrames cX3_becomeInFrames 5 none 1 := ⟨_, rfl, rfl, ⟨⟨wd_X3_becomeInFrames, wz_RX3⟩, by decide, by decide, by decide +kernel⟩, wv_X3_becomeInFrames, wx_X3_becomeInFrames⟩
theorem mv_X3_becomeInThings : MSv 3 yX3_becomeInThings cX3_becomeInThings 5 none 1 := ⟨_, rfl, rfl, ⟨⟨wd_X3_becomeInThings, wz_RX3⟩, by decide, by decide, by decide +kernel⟩, wv_X3_becomeInThings, wx_X3_becomeInThings⟩
theorem mv_X3_changeSetting : MSv 3 yX3_changeSetting cX3_changeSetting 3 none 2 := ⟨_, rfl, rfl, ⟨⟨wd_X3_changeSetting, wz_RX3⟩, by decide, by decide, by decide +kernel⟩, wv_X3_changeSetting, wx_X3_changeSetting⟩
theorem mv_X3_dropFrame : MSv 3 yX3_dropFrame cX3_dropFrame 4 none 1 := ⟨_, rfl, rfl, ⟨⟨wd_X3_dropFrame, wz_RX3⟩, by decide, by decide, by decide +kernel⟩, wv_X3_dropFrame, wx_X3_dropFrame⟩
theorem mv_X3_edgesIn : MSv 3 yX3_edgesIn cX3_edgesIn 7 (some .int) 2 := ⟨_, rfl, rfl, ⟨⟨wd_X3_edgesIn, wz_RX3⟩, by decide, by decide, by decide +kernel⟩, wv_X3_edgesIn, wx_X3_edgesIn⟩
theorem mv_X3_frameAt : MSv 3 yX3_frameAt cX3_frameAt 2 (some (.object "RowVotes$Frame")) 1 := ⟨_, rfl, rfl, ⟨⟨wd_X3_frameAt, wz_RX3⟩, by decide, by decide, by decide +kernel⟩, wv_X3_frameAt, wx_X3_frameAt⟩
theorem mi_X3_init : MSi 3 yX3_init cX3_init 2 0 := ⟨_, rfl, ⟨⟨wd_X3_init, wz_RX3⟩, by decide, by decide, by decide +kernel⟩, wv_X3_init, rfl⟩
theorem mv_X3_judgeRows : MSv 3 yX3_judgeRows cX3_judgeRows 4 none 2 := ⟨_, rfl, rfl, ⟨⟨wd_X3_judgeRows, wz_RX3⟩, by decide, by decide, by decide +kernel⟩, wv_X3_judgeRows, wx_X3_judgeRows⟩
theorem mv_X3_paint : MSv 3 yX3_paint cX3_paint 10 none 5 := ⟨_, rfl, rfl, ⟨⟨wd_X3_paint, wz_RX3⟩, by decide, by decide, by decide +kernel⟩, wv_X3_paint, wx_X3_paint⟩
theorem mv_X3_paintOver : MSv 3 yX3_paintOver cX3_paintOver 5 none 3 := ⟨_, rfl, rfl, ⟨⟨wd_X3_paintOver, wz_RX3⟩, by decide, by decide, by decide +kernel⟩, wv_X3_paintOver, wx_X3_paintOver⟩
theorem mv_X3_percentAt : MSv 3 yX3_percentAt cX3_percentAt 2 (some .int) 1 := ⟨_, rfl, rfl, ⟨⟨wd_X3_percentAt, wz_RX3⟩, by decide, by decide, by decide +kernel⟩, wv_X3_percentAt, wx_X3_percentAt⟩
theorem mv_X3_photograph : MSv 3 yX3_photograph cX3_photograph 7 none 3 := ⟨_, rfl, rfl, ⟨⟨wd_X3_photograph, wz_RX3⟩, by decide, by decide, by decide +kernel⟩, wv_X3_photograph, wx_X3_photograph⟩
theorem mv_X3_setting : MSv 3 yX3_setting cX3_setting 2 (some .int) 1 := ⟨_, rfl, rfl, ⟨⟨wd_X3_setting, wz_RX3⟩, by decide, by decide, by decide +kernel⟩, wv_X3_setting, wx_X3_setting⟩
theorem mv_X3_takeFrame : MSv 3 yX3_takeFrame cX3_takeFrame 3 none 1 := ⟨_, rfl, rfl, ⟨⟨wd_X3_takeFrame, wz_RX3⟩, by decide, by decide, by decide +kernel⟩, wv_X3_takeFrame, wx_X3_takeFrame⟩
theorem mv_X3_thingAt : MSv 3 yX3_thingAt cX3_thingAt 2 (some (.object "RowVotes$Thing")) 1 := ⟨_, rfl, rfl, ⟨⟨wd_X3_thingAt, wz_RX3⟩, by decide, by decide, by decide +kernel⟩, wv_X3_thingAt, wx_X3_thingAt⟩
theorem mv_X3_timeOfRow : MSv 3 yX3_timeOfRow cX3_timeOfRow 3 (some .int) 2 := ⟨_, rfl, rfl, ⟨⟨wd_X3_timeOfRow, wz_RX3⟩, by decide, by decide, by decide +kernel⟩, wv_X3_timeOfRow, wx_X3_timeOfRow⟩
theorem mv_X3_weightOf : MSv 3 yX3_weightOf cX3_weightOf 2 (some .int) 1 := ⟨_, rfl, rfl, ⟨⟨wd_X3_weightOf, wz_RX3⟩, by decide, by decide, by decide +kernel⟩, wv_X3_weightOf, wx_X3_weightOf⟩
theorem mv_X4_append : MSv 4 yX4_append cX4_append 2 (some .boolean) 1 := ⟨_, rfl, rfl, ⟨⟨wd_X4_append, wz_RX4⟩, by decide, by decide, by decide +kernel⟩, wv_X4_append, wx_X4_append⟩
theorem mv_X4_examine : MSv 4 yX4_examine cX4_examine 3 none 1 := ⟨_, rfl, rfl, ⟨⟨wd_X4_examine, wz_RX4⟩, by decide, by decide, by decide +kernel⟩, wv_X4_examine, wx_X4_examine⟩
theorem mv_X4_examineOrder : MSv 4 yX4_examineOrder cX4_examineOrder 1 none 0 := ⟨_, rfl, rfl, ⟨⟨wd_X4_examineOrder, wz_RX4⟩, by decide, by decide, by decide +kernel⟩, wv_X4_examineOrder, wx_X4_examineOrder⟩
theorem mi_X4_init : MSi 4 yX4_init cX4_init 1 0 := ⟨_, rfl, ⟨⟨wd_X4_init, wz_RX4⟩, by decide, by decide, by decide +kernel⟩, wv_X4_init, rfl⟩
theorem mv_X4_isPossibleThen : MSv 4 yX4_isPossibleThen cX4_isPossibleThen 3 (some .boolean) 0 := ⟨_, rfl, rfl, ⟨⟨wd_X4_isPossibleThen, wz_RX4⟩, by decide, by decide, by decide +kernel⟩, wv_X4_isPossibleThen, wx_X4_isPossibleThen⟩
theorem mv_X4_signAt : MSv 4 yX4_signAt cX4_signAt 2 (some .char) 1 := ⟨_, rfl, rfl, ⟨⟨wd_X4_signAt, wz_RX4⟩, by decide, by decide, by decide +kernel⟩, wv_X4_signAt, wx_X4_signAt⟩
theorem mv_X5_become : MSv 5 yX5_become cX5_become 2 none 1 := ⟨_, rfl, rfl, ⟨⟨wd_X5_become, wz_RX5⟩, by decide, by decide, by decide +kernel⟩, wv_X5_become, wx_X5_become⟩
theorem mv_X5_changeSpeed : MSv 5 yX5_changeSpeed cX5_changeSpeed 3 none 2 := ⟨_, rfl, rfl, ⟨⟨wd_X5_changeSpeed, wz_RX5⟩, by decide, by decide, by decide +kernel⟩, wv_X5_changeSpeed, wx_X5_changeSpeed⟩
theorem mi_X5_init : MSi 5 yX5_init cX5_init 1 0 := ⟨_, rfl, ⟨⟨wd_X5_init, wz_RX5⟩, by decide, by decide, by decide +kernel⟩, wv_X5_init, rfl⟩
theorem mv_X5_isIn : MSv 5 yX5_isIn cX5_isIn 2 (some .boolean) 1 := ⟨_, rfl, rfl, ⟨⟨wd_X5_isIn, wz_RX5⟩, by decide, by decide, by decide +kernel⟩, wv_X5_isIn, wx_X5_isIn⟩
theorem mv_X5_numberOf : MSv 5 yX5_numberOf cX5_numberOf 2 (some .int) 1 := ⟨_, rfl, rfl, ⟨⟨wd_X5_numberOf, wz_RX5⟩, by decide, by decide, by decide +kernel⟩, wv_X5_numberOf, wx_X5_numberOf⟩
theorem mv_X5_positionAt : MSv 5 yX5_positionAt cX5_positionAt 2 (some .int) 1 := ⟨_, rfl, rfl, ⟨⟨wd_X5_positionAt, wz_RX5⟩, by decide, by decide, by decide +kernel⟩, wv_X5_positionAt, wx_X5_positionAt⟩
theorem mv_X6_countVotes : MSv 6 yX6_countVotes cX6_countVotes 4 none 1 := ⟨_, rfl, rfl, ⟨⟨wd_X6_countVotes, wz_RX6⟩, by decide, by decide, by decide +kernel⟩, wv_X6_countVotes, wx_X6_countVotes⟩
theorem mi_X6_init : MSi 6 yX6_init cX6_init 1 0 := ⟨_, rfl, ⟨⟨wd_X6_init, wz_RX6⟩, by decide, by decide, by decide +kernel⟩, wv_X6_init, rfl⟩
theorem mv_X6_mostVotes : MSv 6 yX6_mostVotes cX6_mostVotes 3 (some .int) 0 := ⟨_, rfl, rfl, ⟨⟨wd_X6_mostVotes, wz_RX6⟩, by decide, by decide, by decide +kernel⟩, wv_X6_mostVotes, wx_X6_mostVotes⟩
theorem mv_X6_readEdges : MSv 6 yX6_readEdges cX6_readEdges 6 none 3 := ⟨_, rfl, rfl, ⟨⟨wd_X6_readEdges, wz_RX6⟩, by decide, by decide, by decide +kernel⟩, wv_X6_readEdges, wx_X6_readEdges⟩
theorem mv_X6_readFirst : MSv 6 yX6_readFirst cX6_readFirst 3 none 2 := ⟨_, rfl, rfl, ⟨⟨wd_X6_readFirst, wz_RX6⟩, by decide, by decide, by decide +kernel⟩, wv_X6_readFirst, wx_X6_readFirst⟩
theorem mv_X6_readSecond : MSv 6 yX6_readSecond cX6_readSecond 3 none 2 := ⟨_, rfl, rfl, ⟨⟨wd_X6_readSecond, wz_RX6⟩, by decide, by decide, by decide +kernel⟩, wv_X6_readSecond, wx_X6_readSecond⟩
theorem mv_X6_told : MSv 6 yX6_told cX6_told 5 (some .int) 0 := ⟨_, rfl, rfl, ⟨⟨wd_X6_told, wz_RX6⟩, by decide, by decide, by decide +kernel⟩, wv_X6_told, wx_X6_told⟩
theorem mv_X6_voteOf : MSv 6 yX6_voteOf cX6_voteOf 2 (some .int) 1 := ⟨_, rfl, rfl, ⟨⟨wd_X6_voteOf, wz_RX6⟩, by decide, by decide, by decide +kernel⟩, wv_X6_voteOf, wx_X6_voteOf⟩
theorem mv_X6_voteOnShift : MSv 6 yX6_voteOnShift cX6_voteOnShift 2 none 0 := ⟨_, rfl, rfl, ⟨⟨wd_X6_voteOnShift, wz_RX6⟩, by decide, by decide, by decide +kernel⟩, wv_X6_voteOnShift, wx_X6_voteOnShift⟩
theorem mv_X6_voteOnSlant : MSv 6 yX6_voteOnSlant cX6_voteOnSlant 4 none 2 := ⟨_, rfl, rfl, ⟨⟨wd_X6_voteOnSlant, wz_RX6⟩, by decide, by decide, by decide +kernel⟩, wv_X6_voteOnSlant, wx_X6_voteOnSlant⟩
theorem mv_X6_votersAtAll : MSv 6 yX6_votersAtAll cX6_votersAtAll 1 (some .int) 0 := ⟨_, rfl, rfl, ⟨⟨wd_X6_votersAtAll, wz_RX6⟩, by decide, by decide, by decide +kernel⟩, wv_X6_votersAtAll, wx_X6_votersAtAll⟩
theorem mv_X6_votersFor : MSv 6 yX6_votersFor cX6_votersFor 4 (some .int) 1 := ⟨_, rfl, rfl, ⟨⟨wd_X6_votersFor, wz_RX6⟩, by decide, by decide, by decide +kernel⟩, wv_X6_votersFor, wx_X6_votersFor⟩
theorem mv_X6_weigh : MSv 6 yX6_weigh cX6_weigh 2 none 1 := ⟨_, rfl, rfl, ⟨⟨wd_X6_weigh, wz_RX6⟩, by decide, by decide, by decide +kernel⟩, wv_X6_weigh, wx_X6_weigh⟩
theorem ms_X7_bestShift : MSs yX7_bestShift cX7_bestShift 7 (some .int) 2 := ⟨⟨⟨wd_X7_bestShift, wz_RX7⟩, by decide, by decide, by decide +kernel⟩, wt_X7_bestShift⟩
theorem ms_X7_columnsCovered : MSs yX7_columnsCovered cX7_columnsCovered 4 (some .int) 2 := ⟨⟨⟨wd_X7_columnsCovered, wz_RX7⟩, by decide, by decide, by decide +kernel⟩, wt_X7_columnsCovered⟩
theorem mv_X7_darkPeriods : MSv 7 yX7_darkPeriods cX7_darkPeriods 4 (some .int) 1 := ⟨_, rfl, rfl, ⟨⟨wd_X7_darkPeriods, wz_RX7⟩, by decide, by decide, by decide +kernel⟩, wv_X7_darkPeriods, wx_X7_darkPeriods⟩
theorem ms_X7_dimmed : MSs yX7_dimmed cX7_dimmed 2 (some .int) 2 := ⟨⟨⟨wd_X7_dimmed, wz_RX7⟩, by decide, by decide, by decide +kernel⟩, wt_X7_dimmed⟩
theorem mv_X7_edgeCountOf : MSv 7 yX7_edgeCountOf cX7_edgeCountOf 4 (some .int) 1 := ⟨_, rfl, rfl, ⟨⟨wd_X7_edgeCountOf, wz_RX7⟩, by decide, by decide, by decide +kernel⟩, wv_X7_edgeCountOf, wx_X7_edgeCountOf⟩
theorem ms_X7_holds : MSs yX7_holds cX7_holds 2 (some .boolean) 2 := ⟨⟨⟨wd_X7_holds, wz_RX7⟩, by decide, by decide, by decide +kernel⟩, wt_X7_holds⟩
theorem ms_X7_isDark : MSs yX7_isDark cX7_isDark 3 (some .boolean) 3 := ⟨⟨⟨wd_X7_isDark, wz_RX7⟩, by decide, by decide, by decide +kernel⟩, wt_X7_isDark⟩
theorem mv_X7_isPair : MSv 7 yX7_isPair cX7_isPair 3 (some .boolean) 2 := ⟨_, rfl, rfl, ⟨⟨wd_X7_isPair, wz_RX7⟩, by decide, by decide, by decide +kernel⟩, wv_X7_isPair, wx_X7_isPair⟩
theorem mv_X7_isPlace : MSv 7 yX7_isPlace cX7_isPlace 3 (some .boolean) 2 := ⟨_, rfl, rfl, ⟨⟨wd_X7_isPlace, wz_RX7⟩, by decide, by decide, by decide +kernel⟩, wv_X7_isPlace, wx_X7_isPlace⟩
theorem ms_X7_isWithin : MSs yX7_isWithin cX7_isWithin 3 (some .boolean) 3 := ⟨⟨⟨wd_X7_isWithin, wz_RX7⟩, by decide, by decide, by decide +kernel⟩, wt_X7_isWithin⟩
theorem ms_X7_numberIn : MSs yX7_numberIn cX7_numberIn 2 (some .int) 2 := ⟨⟨⟨wd_X7_numberIn, wz_RX7⟩, by decide, by decide, by decide +kernel⟩, wt_X7_numberIn⟩
theorem mv_X7_periodsFitting : MSv 7 yX7_periodsFitting cX7_periodsFitting 7 (some .int) 1 := ⟨_, rfl, rfl, ⟨⟨wd_X7_periodsFitting, wz_RX7⟩, by decide, by decide, by decide +kernel⟩, wv_X7_periodsFitting, wx_X7_periodsFitting⟩
theorem mv_X7_recordState : MSv 7 yX7_recordState cX7_recordState 3 none 0 := ⟨_, rfl, rfl, ⟨⟨wd_X7_recordState, wz_RX7⟩, by decide, by decide, by decide +kernel⟩, wv_X7_recordState, wx_X7_recordState⟩
theorem mv_X7_rowFits : MSv 7 yX7_rowFits cX7_rowFits 5 (some .boolean) 3 := ⟨_, rfl, rfl, ⟨⟨wd_X7_rowFits, wz_RX7⟩, by decide, by decide, by decide +kernel⟩, wv_X7_rowFits, wx_X7_rowFits⟩
theorem mv_X7_voteOn : MSv 7 yX7_voteOn cX7_voteOn 3 none 2 := ⟨_, rfl, rfl, ⟨⟨wd_X7_voteOn, wz_RX7⟩, by decide, by decide, by decide +kernel⟩, wv_X7_voteOn, wx_X7_voteOn⟩
theorem ms_X7_wrongOfThing : MSs yX7_wrongOfThing cX7_wrongOfThing 6 (some .int) 6 := ⟨⟨⟨wd_X7_wrongOfThing, wz_RX7⟩, by decide, by decide, by decide +kernel⟩, wt_X7_wrongOfThing⟩
theorem ms_X8_adds : MSs yX8_adds cX8_adds 8 none 7 := ⟨⟨⟨wd_X8_adds, wz_RX8⟩, by decide, by decide, by decide +kernel⟩, wt_X8_adds⟩
theorem ms_X8_agreeing : MSs yX8_agreeing cX8_agreeing 5 (some .int) 3 := ⟨⟨⟨wd_X8_agreeing, wz_RX8⟩, by decide, by decide, by decide +kernel⟩, wt_X8_agreeing⟩
theorem mv_X8_allFit : MSv 8 yX8_allFit cX8_allFit 4 (some .boolean) 1 := ⟨_, rfl, rfl, ⟨⟨wd_X8_allFit, wz_RX8⟩, by decide, by decide, by decide +kernel⟩, wv_X8_allFit, wx_X8_allFit⟩
theorem mv_X8_areFrames : MSv 8 yX8_areFrames cX8_areFrames 3 (some .boolean) 2 := ⟨_, rfl, rfl, ⟨⟨wd_X8_areFrames, wz_RX8⟩, by decide, by decide, by decide +kernel⟩, wv_X8_areFrames, wx_X8_areFrames⟩
theorem ms_X8_bits : MSs yX8_bits cX8_bits 3 (some .int) 1 := ⟨⟨⟨wd_X8_bits, wz_RX8⟩, by decide, by decide, by decide +kernel⟩, wt_X8_bits⟩
theorem ms_X8_can : MSs yX8_can cX8_can 3 (some .boolean) 3 := ⟨⟨⟨wd_X8_can, wz_RX8⟩, by decide, by decide, by decide +kernel⟩, wt_X8_can⟩
theorem ms_X8_copies : MSs yX8_copies cX8_copies 5 none 4 := ⟨⟨⟨wd_X8_copies, wz_RX8⟩, by decide, by decide, by decide +kernel⟩, wt_X8_copies⟩
theorem mv_X8_counts : MSv 8 yX8_counts cX8_counts 3 none 2 := ⟨_, rfl, rfl, ⟨⟨wd_X8_counts, wz_RX8⟩, by decide, by decide, by decide +kernel⟩, wv_X8_counts, wx_X8_counts⟩
theorem ms_X8_covers : MSs yX8_covers cX8_covers 8 (some .boolean) 5 := ⟨⟨⟨wd_X8_covers, wz_RX8⟩, by decide, by decide, by decide +kernel⟩, wt_X8_covers⟩
theorem mv_X8_does : MSv 8 yX8_does cX8_does 3 none 2 := ⟨_, rfl, rfl, ⟨⟨wd_X8_does, wz_RX8⟩, by decide, by decide, by decide +kernel⟩, wv_X8_does, wx_X8_does⟩
theorem mv_X8_done : MSv 8 yX8_done cX8_done 5 (some .int) 0 := ⟨_, rfl, rfl, ⟨⟨wd_X8_done, wz_RX8⟩, by decide, by decide, by decide +kernel⟩, wv_X8_done, wx_X8_done⟩
theorem ms_X8_drops : MSs yX8_drops cX8_drops 3 none 2 := ⟨⟨⟨wd_X8_drops, wz_RX8⟩, by decide, by decide, by decide +kernel⟩, wt_X8_drops⟩
theorem mv_X8_edgesAt : MSv 8 yX8_edgesAt cX8_edgesAt 6 (some .int) 2 := ⟨_, rfl, rfl, ⟨⟨wd_X8_edgesAt, wz_RX8⟩, by decide, by decide, by decide +kernel⟩, wv_X8_edgesAt, wx_X8_edgesAt⟩
theorem mv_X8_edgesIn : MSv 8 yX8_edgesIn cX8_edgesIn 5 (some .int) 2 := ⟨_, rfl, rfl, ⟨⟨wd_X8_edgesIn, wz_RX8⟩, by decide, by decide, by decide +kernel⟩, wv_X8_edgesIn, wx_X8_edgesIn⟩
theorem mv_X8_faults : MSv 8 yX8_faults cX8_faults 4 none 3 := ⟨_, rfl, rfl, ⟨⟨wd_X8_faults, wz_RX8⟩, by decide, by decide, by decide +kernel⟩, wv_X8_faults, wx_X8_faults⟩
theorem mv_X8_form : MSv 8 yX8_form cX8_form 3 (some .int) 0 := ⟨_, rfl, rfl, ⟨⟨wd_X8_form, wz_RX8⟩, by decide, by decide, by decide +kernel⟩, wv_X8_form, wx_X8_form⟩
theorem mv_X8_frameValue : MSv 8 yX8_frameValue cX8_frameValue 3 (some .int) 2 := ⟨_, rfl, rfl, ⟨⟨wd_X8_frameValue, wz_RX8⟩, by decide, by decide, by decide +kernel⟩, wv_X8_frameValue, wx_X8_frameValue⟩
theorem ms_X8_has : MSs yX8_has cX8_has 2 (some .boolean) 2 := ⟨⟨⟨wd_X8_has, wz_RX8⟩, by decide, by decide, by decide +kernel⟩, wt_X8_has⟩
theorem ms_X8_in : MSs yX8_in cX8_in 3 (some .boolean) 3 := ⟨⟨⟨wd_X8_in, wz_RX8⟩, by decide, by decide, by decide +kernel⟩, wt_X8_in⟩
theorem mv_X8_isColumn : MSv 8 yX8_isColumn cX8_isColumn 2 (some .boolean) 1 := ⟨_, rfl, rfl, ⟨⟨wd_X8_isColumn, wz_RX8⟩, by decide, by decide, by decide +kernel⟩, wv_X8_isColumn, wx_X8_isColumn⟩
theorem ms_X8_isDark : MSs yX8_isDark cX8_isDark 2 (some .boolean) 2 := ⟨⟨⟨wd_X8_isDark, wz_RX8⟩, by decide, by decide, by decide +kernel⟩, wt_X8_isDark⟩
theorem mv_X8_isEdge : MSv 8 yX8_isEdge cX8_isEdge 5 (some .boolean) 3 := ⟨_, rfl, rfl, ⟨⟨wd_X8_isEdge, wz_RX8⟩, by decide, by decide, by decide +kernel⟩, wv_X8_isEdge, wx_X8_isEdge⟩
theorem mv_X8_isFrame : MSv 8 yX8_isFrame cX8_isFrame 2 (some .boolean) 1 := ⟨_, rfl, rfl, ⟨⟨wd_X8_isFrame, wz_RX8⟩, by decide, by decide, by decide +kernel⟩, wv_X8_isFrame, wx_X8_isFrame⟩
theorem mv_X8_isRow : MSv 8 yX8_isRow cX8_isRow 2 (some .boolean) 1 := ⟨_, rfl, rfl, ⟨⟨wd_X8_isRow, wz_RX8⟩, by decide, by decide, by decide +kernel⟩, wv_X8_isRow, wx_X8_isRow⟩
theorem mv_X8_isSeen : MSv 8 yX8_isSeen cX8_isSeen 3 (some .boolean) 2 := ⟨_, rfl, rfl, ⟨⟨wd_X8_isSeen, wz_RX8⟩, by decide, by decide, by decide +kernel⟩, wv_X8_isSeen, wx_X8_isSeen⟩
theorem ms_X8_isSetting : MSs yX8_isSetting cX8_isSetting 2 (some .boolean) 2 := ⟨⟨⟨wd_X8_isSetting, wz_RX8⟩, by decide, by decide, by decide +kernel⟩, wt_X8_isSetting⟩
theorem mv_X8_isThing : MSv 8 yX8_isThing cX8_isThing 2 (some .boolean) 1 := ⟨_, rfl, rfl, ⟨⟨wd_X8_isThing, wz_RX8⟩, by decide, by decide, by decide +kernel⟩, wv_X8_isThing, wx_X8_isThing⟩
theorem mv_X8_look : MSv 8 yX8_look cX8_look 1 (some .int) 0 := ⟨_, rfl, rfl, ⟨⟨wd_X8_look, wz_RX8⟩, by decide, by decide, by decide +kernel⟩, wv_X8_look, wx_X8_look⟩
theorem mv_X8_mostVoted : MSv 8 yX8_mostVoted cX8_mostVoted 4 (some .int) 0 := ⟨_, rfl, rfl, ⟨⟨wd_X8_mostVoted, wz_RX8⟩, by decide, by decide, by decide +kernel⟩, wv_X8_mostVoted, wx_X8_mostVoted⟩
theorem mv_X8_noVotes : MSv 8 yX8_noVotes cX8_noVotes 2 none 0 := ⟨_, rfl, rfl, ⟨⟨wd_X8_noVotes, wz_RX8⟩, by decide, by decide, by decide +kernel⟩, wv_X8_noVotes, wx_X8_noVotes⟩
theorem mv_X8_notes : MSv 8 yX8_notes cX8_notes 2 none 0 := ⟨_, rfl, rfl, ⟨⟨wd_X8_notes, wz_RX8⟩, by decide, by decide, by decide +kernel⟩, wv_X8_notes, wx_X8_notes⟩
theorem mv_X8_number : MSv 8 yX8_number cX8_number 5 none 1 := ⟨_, rfl, rfl, ⟨⟨wd_X8_number, wz_RX8⟩, by decide, by decide, by decide +kernel⟩, wv_X8_number, wx_X8_number⟩
theorem mv_X8_pixelOf : MSv 8 yX8_pixelOf cX8_pixelOf 4 (some .int) 3 := ⟨_, rfl, rfl, ⟨⟨wd_X8_pixelOf, wz_RX8⟩, by decide, by decide, by decide +kernel⟩, wv_X8_pixelOf, wx_X8_pixelOf⟩
theorem ms_X8_placeAt : MSs yX8_placeAt cX8_placeAt 4 (some .int) 3 := ⟨⟨⟨wd_X8_placeAt, wz_RX8⟩, by decide, by decide, by decide +kernel⟩, wt_X8_placeAt⟩
theorem mv_X8_rowFits : MSv 8 yX8_rowFits cX8_rowFits 6 (some .boolean) 3 := ⟨_, rfl, rfl, ⟨⟨wd_X8_rowFits, wz_RX8⟩, by decide, by decide, by decide +kernel⟩, wv_X8_rowFits, wx_X8_rowFits⟩
theorem ms_X8_shown : MSs yX8_shown cX8_shown 6 (some .int) 4 := ⟨⟨⟨wd_X8_shown, wz_RX8⟩, by decide, by decide, by decide +kernel⟩, wt_X8_shown⟩
theorem mv_X8_sign : MSv 8 yX8_sign cX8_sign 2 none 1 := ⟨_, rfl, rfl, ⟨⟨wd_X8_sign, wz_RX8⟩, by decide, by decide, by decide +kernel⟩, wv_X8_sign, wx_X8_sign⟩
theorem ms_X8_size : MSs yX8_size cX8_size 1 (some .int) 1 := ⟨⟨⟨wd_X8_size, wz_RX8⟩, by decide, by decide, by decide +kernel⟩, wt_X8_size⟩
theorem mv_X8_slantOf : MSv 8 yX8_slantOf cX8_slantOf 3 (some .int) 1 := ⟨_, rfl, rfl, ⟨⟨wd_X8_slantOf, wz_RX8⟩, by decide, by decide, by decide +kernel⟩, wv_X8_slantOf, wx_X8_slantOf⟩
theorem ms_X8_takes : MSs yX8_takes cX8_takes 4 none 1 := ⟨⟨⟨wd_X8_takes, wz_RX8⟩, by decide, by decide, by decide +kernel⟩, wt_X8_takes⟩
theorem mv_X8_toldBy : MSv 8 yX8_toldBy cX8_toldBy 5 (some .int) 3 := ⟨_, rfl, rfl, ⟨⟨wd_X8_toldBy, wz_RX8⟩, by decide, by decide, by decide +kernel⟩, wv_X8_toldBy, wx_X8_toldBy⟩
theorem mv_X8_tries : MSv 8 yX8_tries cX8_tries 5 none 1 := ⟨_, rfl, rfl, ⟨⟨wd_X8_tries, wz_RX8⟩, by decide, by decide, by decide +kernel⟩, wv_X8_tries, wx_X8_tries⟩
theorem ms_X8_voteBy : MSs yX8_voteBy cX8_voteBy 6 (some .int) 2 := ⟨⟨⟨wd_X8_voteBy, wz_RX8⟩, by decide, by decide, by decide +kernel⟩, wt_X8_voteBy⟩
theorem mv_X8_voteOf : MSv 8 yX8_voteOf cX8_voteOf 4 (some .int) 3 := ⟨_, rfl, rfl, ⟨⟨wd_X8_voteOf, wz_RX8⟩, by decide, by decide, by decide +kernel⟩, wv_X8_voteOf, wx_X8_voteOf⟩
theorem mv_X8_votersOf : MSv 8 yX8_votersOf cX8_votersOf 8 (some .int) 4 := ⟨_, rfl, rfl, ⟨⟨wd_X8_votersOf, wz_RX8⟩, by decide, by decide, by decide +kernel⟩, wv_X8_votersOf, wx_X8_votersOf⟩
theorem mv_X8_weightOf : MSv 8 yX8_weightOf cX8_weightOf 3 (some .int) 1 := ⟨_, rfl, rfl, ⟨⟨wd_X8_weightOf, wz_RX8⟩, by decide, by decide, by decide +kernel⟩, wv_X8_weightOf, wx_X8_weightOf⟩
theorem mv_X8_wrongIn : MSv 8 yX8_wrongIn cX8_wrongIn 2 (some .int) 1 := ⟨_, rfl, rfl, ⟨⟨wd_X8_wrongIn, wz_RX8⟩, by decide, by decide, by decide +kernel⟩, wv_X8_wrongIn, wx_X8_wrongIn⟩
theorem ms_X8_wrongNumber : MSs yX8_wrongNumber cX8_wrongNumber 6 (some .int) 6 := ⟨⟨⟨wd_X8_wrongNumber, wz_RX8⟩, by decide, by decide, by decide +kernel⟩, wt_X8_wrongNumber⟩
end
