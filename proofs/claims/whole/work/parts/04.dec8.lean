theorem dX8_init_0 : decode cX8_init 0 = .ok (.aload_n 0, 1) := by decide +kernel
theorem dX8_init_1 : decode cX8_init 1 = .ok (.invokespecial 1, 3) := by decide +kernel
theorem dX8_init_4 : decode cX8_init 4 = .ok (.aload_n 0, 1) := by decide +kernel
theorem dX8_init_5 : decode cX8_init 5 = .ok (.sipush 867, 3) := by decide +kernel
theorem dX8_init_8 : decode cX8_init 8 = .ok (.newarray .int, 2) := by decide +kernel
theorem dX8_init_10 : decode cX8_init 10 = .ok (.putfield 7, 3) := by decide +kernel
theorem dX8_init_13 : decode cX8_init 13 = .ok (.aload_n 0, 1) := by decide +kernel
theorem dX8_init_14 : decode cX8_init 14 = .ok (.sipush 3468, 3) := by decide +kernel
theorem dX8_init_17 : decode cX8_init 17 = .ok (.newarray .int, 2) := by decide +kernel
theorem dX8_init_19 : decode cX8_init 19 = .ok (.putfield 13, 3) := by decide +kernel
theorem dX8_init_22 : decode cX8_init 22 = .ok (.aload_n 0, 1) := by decide +kernel
theorem dX8_init_23 : decode cX8_init 23 = .ok (.sipush 867, 3) := by decide +kernel
theorem dX8_init_26 : decode cX8_init 26 = .ok (.newarray .int, 2) := by decide +kernel
theorem dX8_init_28 : decode cX8_init 28 = .ok (.putfield 16, 3) := by decide +kernel
theorem dX8_init_31 : decode cX8_init 31 = .ok (.aload_n 0, 1) := by decide +kernel
theorem dX8_init_32 : decode cX8_init 32 = .ok (.bipush 80, 2) := by decide +kernel
theorem dX8_init_34 : decode cX8_init 34 = .ok (.newarray .int, 2) := by decide +kernel
theorem dX8_init_36 : decode cX8_init 36 = .ok (.putfield 19, 3) := by decide +kernel
theorem dX8_init_39 : decode cX8_init 39 = .ok (.aload_n 0, 1) := by decide +kernel
theorem dX8_init_40 : decode cX8_init 40 = .ok (.bipush 17, 2) := by decide +kernel
theorem dX8_init_42 : decode cX8_init 42 = .ok (.newarray .int, 2) := by decide +kernel
theorem dX8_init_44 : decode cX8_init 44 = .ok (.putfield 22, 3) := by decide +kernel
theorem dX8_init_47 : decode cX8_init 47 = .ok (.aload_n 0, 1) := by decide +kernel
theorem dX8_init_48 : decode cX8_init 48 = .ok (.bipush 6, 2) := by decide +kernel
theorem dX8_init_50 : decode cX8_init 50 = .ok (.newarray .int, 2) := by decide +kernel
theorem dX8_init_52 : decode cX8_init 52 = .ok (.putfield 25, 3) := by decide +kernel
theorem dX8_init_55 : decode cX8_init 55 = .ok (.aload_n 0, 1) := by decide +kernel
theorem dX8_init_56 : decode cX8_init 56 = .ok (.getfield 7, 3) := by decide +kernel
theorem dX8_init_59 : decode cX8_init 59 = .ok (.iconst 0, 1) := by decide +kernel
theorem dX8_init_60 : decode cX8_init 60 = .ok (.bipush 6, 2) := by decide +kernel
theorem dX8_init_62 : decode cX8_init 62 = .ok (.iastore, 1) := by decide +kernel
theorem dX8_init_63 : decode cX8_init 63 = .ok (.aload_n 0, 1) := by decide +kernel
theorem dX8_init_64 : decode cX8_init 64 = .ok (.getfield 7, 3) := by decide +kernel
theorem dX8_init_67 : decode cX8_init 67 = .ok (.iconst 1, 1) := by decide +kernel
theorem dX8_init_68 : decode cX8_init 68 = .ok (.bipush 12, 2) := by decide +kernel
theorem dX8_init_70 : decode cX8_init 70 = .ok (.iastore, 1) := by decide +kernel
theorem dX8_init_71 : decode cX8_init 71 = .ok (.aload_n 0, 1) := by decide +kernel
theorem dX8_init_72 : decode cX8_init 72 = .ok (.getfield 7, 3) := by decide +kernel
theorem dX8_init_75 : decode cX8_init 75 = .ok (.iconst 2, 1) := by decide +kernel
theorem dX8_init_76 : decode cX8_init 76 = .ok (.iconst 1, 1) := by decide +kernel
theorem dX8_init_77 : decode cX8_init 77 = .ok (.iastore, 1) := by decide +kernel
theorem dX8_init_78 : decode cX8_init 78 = .ok (.aload_n 0, 1) := by decide +kernel
theorem dX8_init_79 : decode cX8_init 79 = .ok (.getfield 7, 3) := by decide +kernel
theorem dX8_init_82 : decode cX8_init 82 = .ok (.iconst 3, 1) := by decide +kernel
theorem dX8_init_83 : decode cX8_init 83 = .ok (.bipush 40, 2) := by decide +kernel
theorem dX8_init_85 : decode cX8_init 85 = .ok (.iastore, 1) := by decide +kernel
theorem dX8_init_86 : decode cX8_init 86 = .ok (.aload_n 0, 1) := by decide +kernel
theorem dX8_init_87 : decode cX8_init 87 = .ok (.getfield 7, 3) := by decide +kernel
theorem dX8_init_90 : decode cX8_init 90 = .ok (.iconst 4, 1) := by decide +kernel
theorem dX8_init_91 : decode cX8_init 91 = .ok (.bipush 20, 2) := by decide +kernel
theorem dX8_init_93 : decode cX8_init 93 = .ok (.iastore, 1) := by decide +kernel
theorem dX8_init_94 : decode cX8_init 94 = .ok (.aload_n 0, 1) := by decide +kernel
theorem dX8_init_95 : decode cX8_init 95 = .ok (.getfield 7, 3) := by decide +kernel
theorem dX8_init_98 : decode cX8_init 98 = .ok (.bipush 7, 2) := by decide +kernel
theorem dX8_init_100 : decode cX8_init 100 = .ok (.bipush 50, 2) := by decide +kernel
theorem dX8_init_102 : decode cX8_init 102 = .ok (.iastore, 1) := by decide +kernel
theorem dX8_init_103 : decode cX8_init 103 = .ok (.return_, 1) := by decide +kernel
theorem dX8_in_0 : decode cX8_in 0 = .ok (.iload_n 0, 1) := by decide +kernel
theorem dX8_in_1 : decode cX8_in 1 = .ok (.iload_n 1, 1) := by decide +kernel
theorem dX8_in_2 : decode cX8_in 2 = .ok (.if_icmp .lt 12, 3) := by decide +kernel
theorem dX8_in_5 : decode cX8_in 5 = .ok (.iload_n 0, 1) := by decide +kernel
theorem dX8_in_6 : decode cX8_in 6 = .ok (.iload_n 2, 1) := by decide +kernel
theorem dX8_in_7 : decode cX8_in 7 = .ok (.if_icmp .gt 7, 3) := by decide +kernel
theorem dX8_in_10 : decode cX8_in 10 = .ok (.iconst 1, 1) := by decide +kernel
theorem dX8_in_11 : decode cX8_in 11 = .ok (.goto 4, 3) := by decide +kernel
theorem dX8_in_14 : decode cX8_in 14 = .ok (.iconst 0, 1) := by decide +kernel
theorem dX8_in_15 : decode cX8_in 15 = .ok (.ireturn, 1) := by decide +kernel
theorem dX8_has_0 : decode cX8_has 0 = .ok (.iload_n 0, 1) := by decide +kernel
theorem dX8_has_1 : decode cX8_has 1 = .ok (.iload_n 1, 1) := by decide +kernel
theorem dX8_has_2 : decode cX8_has 2 = .ok (.ishr, 1) := by decide +kernel
theorem dX8_has_3 : decode cX8_has 3 = .ok (.iconst 1, 1) := by decide +kernel
theorem dX8_has_4 : decode cX8_has 4 = .ok (.iand, 1) := by decide +kernel
theorem dX8_has_5 : decode cX8_has 5 = .ok (.iconst 1, 1) := by decide +kernel
theorem dX8_has_6 : decode cX8_has 6 = .ok (.if_icmp .ne 7, 3) := by decide +kernel
theorem dX8_has_9 : decode cX8_has 9 = .ok (.iconst 1, 1) := by decide +kernel
theorem dX8_has_10 : decode cX8_has 10 = .ok (.goto 4, 3) := by decide +kernel
theorem dX8_has_13 : decode cX8_has 13 = .ok (.iconst 0, 1) := by decide +kernel
theorem dX8_has_14 : decode cX8_has 14 = .ok (.ireturn, 1) := by decide +kernel
theorem dX8_bits_0 : decode cX8_bits 0 = .ok (.iconst 0, 1) := by decide +kernel
theorem dX8_bits_1 : decode cX8_bits 1 = .ok (.istore_n 1, 1) := by decide +kernel
theorem dX8_bits_2 : decode cX8_bits 2 = .ok (.iconst 0, 1) := by decide +kernel
theorem dX8_bits_3 : decode cX8_bits 3 = .ok (.istore_n 2, 1) := by decide +kernel
theorem dX8_bits_4 : decode cX8_bits 4 = .ok (.iload_n 2, 1) := by decide +kernel
theorem dX8_bits_5 : decode cX8_bits 5 = .ok (.bipush 17, 2) := by decide +kernel
theorem dX8_bits_7 : decode cX8_bits 7 = .ok (.if_icmp .ge 17, 3) := by decide +kernel
theorem dX8_bits_10 : decode cX8_bits 10 = .ok (.iload_n 1, 1) := by decide +kernel
theorem dX8_bits_11 : decode cX8_bits 11 = .ok (.iload_n 0, 1) := by decide +kernel
theorem dX8_bits_12 : decode cX8_bits 12 = .ok (.iload_n 2, 1) := by decide +kernel
theorem dX8_bits_13 : decode cX8_bits 13 = .ok (.ishr, 1) := by decide +kernel
theorem dX8_bits_14 : decode cX8_bits 14 = .ok (.iconst 1, 1) := by decide +kernel
theorem dX8_bits_15 : decode cX8_bits 15 = .ok (.iand, 1) := by decide +kernel
theorem dX8_bits_16 : decode cX8_bits 16 = .ok (.iadd, 1) := by decide +kernel
theorem dX8_bits_17 : decode cX8_bits 17 = .ok (.istore_n 1, 1) := by decide +kernel
theorem dX8_bits_18 : decode cX8_bits 18 = .ok (.iinc 2 1, 3) := by decide +kernel
theorem dX8_bits_21 : decode cX8_bits 21 = .ok (.goto (-17), 3) := by decide +kernel
theorem dX8_bits_24 : decode cX8_bits 24 = .ok (.iload_n 1, 1) := by decide +kernel
theorem dX8_bits_25 : decode cX8_bits 25 = .ok (.ireturn, 1) := by decide +kernel
theorem dX8_copies_0 : decode cX8_copies 0 = .ok (.iconst 0, 1) := by decide +kernel
theorem dX8_copies_1 : decode cX8_copies 1 = .ok (.istore 4, 2) := by decide +kernel
theorem dX8_copies_3 : decode cX8_copies 3 = .ok (.iload 4, 2) := by decide +kernel
theorem dX8_copies_5 : decode cX8_copies 5 = .ok (.sipush 867, 3) := by decide +kernel
theorem dX8_copies_8 : decode cX8_copies 8 = .ok (.if_icmp .ge 21, 3) := by decide +kernel
theorem dX8_copies_11 : decode cX8_copies 11 = .ok (.aload_n 2, 1) := by decide +kernel
theorem dX8_copies_12 : decode cX8_copies 12 = .ok (.iload_n 3, 1) := by decide +kernel
theorem dX8_copies_13 : decode cX8_copies 13 = .ok (.iload 4, 2) := by decide +kernel
theorem dX8_copies_15 : decode cX8_copies 15 = .ok (.iadd, 1) := by decide +kernel
theorem dX8_copies_16 : decode cX8_copies 16 = .ok (.aload_n 0, 1) := by decide +kernel
theorem dX8_copies_17 : decode cX8_copies 17 = .ok (.iload_n 1, 1) := by decide +kernel
theorem dX8_copies_18 : decode cX8_copies 18 = .ok (.iload 4, 2) := by decide +kernel
theorem dX8_copies_20 : decode cX8_copies 20 = .ok (.iadd, 1) := by decide +kernel
theorem dX8_copies_21 : decode cX8_copies 21 = .ok (.iaload, 1) := by decide +kernel
theorem dX8_copies_22 : decode cX8_copies 22 = .ok (.iastore, 1) := by decide +kernel
theorem dX8_copies_23 : decode cX8_copies 23 = .ok (.iinc 4 1, 3) := by decide +kernel
theorem dX8_copies_26 : decode cX8_copies 26 = .ok (.goto (-23), 3) := by decide +kernel
theorem dX8_copies_29 : decode cX8_copies 29 = .ok (.return_, 1) := by decide +kernel
theorem dX8_notes_0 : decode cX8_notes 0 = .ok (.aload_n 0, 1) := by decide +kernel
theorem dX8_notes_1 : decode cX8_notes 1 = .ok (.getfield 28, 3) := by decide +kernel
theorem dX8_notes_4 : decode cX8_notes 4 = .ok (.iconst 4, 1) := by decide +kernel
theorem dX8_notes_5 : decode cX8_notes 5 = .ok (.if_icmp .ne 44, 3) := by decide +kernel
theorem dX8_notes_8 : decode cX8_notes 8 = .ok (.iconst 0, 1) := by decide +kernel
theorem dX8_notes_9 : decode cX8_notes 9 = .ok (.istore_n 1, 1) := by decide +kernel
theorem dX8_notes_10 : decode cX8_notes 10 = .ok (.iload_n 1, 1) := by decide +kernel
theorem dX8_notes_11 : decode cX8_notes 11 = .ok (.sipush 2601, 3) := by decide +kernel
theorem dX8_notes_14 : decode cX8_notes 14 = .ok (.if_icmp .ge 25, 3) := by decide +kernel
theorem dX8_notes_17 : decode cX8_notes 17 = .ok (.aload_n 0, 1) := by decide +kernel
theorem dX8_notes_18 : decode cX8_notes 18 = .ok (.getfield 13, 3) := by decide +kernel
theorem dX8_notes_21 : decode cX8_notes 21 = .ok (.iload_n 1, 1) := by decide +kernel
theorem dX8_notes_22 : decode cX8_notes 22 = .ok (.aload_n 0, 1) := by decide +kernel
theorem dX8_notes_23 : decode cX8_notes 23 = .ok (.getfield 13, 3) := by decide +kernel
theorem dX8_notes_26 : decode cX8_notes 26 = .ok (.iload_n 1, 1) := by decide +kernel
theorem dX8_notes_27 : decode cX8_notes 27 = .ok (.sipush 867, 3) := by decide +kernel
theorem dX8_notes_30 : decode cX8_notes 30 = .ok (.iadd, 1) := by decide +kernel
theorem dX8_notes_31 : decode cX8_notes 31 = .ok (.iaload, 1) := by decide +kernel
theorem dX8_notes_32 : decode cX8_notes 32 = .ok (.iastore, 1) := by decide +kernel
theorem dX8_notes_33 : decode cX8_notes 33 = .ok (.iinc 1 1, 3) := by decide +kernel
theorem dX8_notes_36 : decode cX8_notes 36 = .ok (.goto (-26), 3) := by decide +kernel
theorem dX8_notes_39 : decode cX8_notes 39 = .ok (.aload_n 0, 1) := by decide +kernel
theorem dX8_notes_40 : decode cX8_notes 40 = .ok (.dup, 1) := by decide +kernel
theorem dX8_notes_41 : decode cX8_notes 41 = .ok (.getfield 28, 3) := by decide +kernel
theorem dX8_notes_44 : decode cX8_notes 44 = .ok (.iconst 1, 1) := by decide +kernel
theorem dX8_notes_45 : decode cX8_notes 45 = .ok (.isub, 1) := by decide +kernel
theorem dX8_notes_46 : decode cX8_notes 46 = .ok (.putfield 28, 3) := by decide +kernel
theorem dX8_notes_49 : decode cX8_notes 49 = .ok (.aload_n 0, 1) := by decide +kernel
theorem dX8_notes_50 : decode cX8_notes 50 = .ok (.getfield 7, 3) := by decide +kernel
theorem dX8_notes_53 : decode cX8_notes 53 = .ok (.iconst 0, 1) := by decide +kernel
theorem dX8_notes_54 : decode cX8_notes 54 = .ok (.aload_n 0, 1) := by decide +kernel
theorem dX8_notes_55 : decode cX8_notes 55 = .ok (.getfield 13, 3) := by decide +kernel
theorem dX8_notes_58 : decode cX8_notes 58 = .ok (.sipush 867, 3) := by decide +kernel
theorem dX8_notes_61 : decode cX8_notes 61 = .ok (.aload_n 0, 1) := by decide +kernel
theorem dX8_notes_62 : decode cX8_notes 62 = .ok (.getfield 28, 3) := by decide +kernel
theorem dX8_notes_65 : decode cX8_notes 65 = .ok (.imul, 1) := by decide +kernel
theorem dX8_notes_66 : decode cX8_notes 66 = .ok (.invokestatic 32, 3) := by decide +kernel
theorem dX8_notes_69 : decode cX8_notes 69 = .ok (.aload_n 0, 1) := by decide +kernel
theorem dX8_notes_70 : decode cX8_notes 70 = .ok (.dup, 1) := by decide +kernel
theorem dX8_notes_71 : decode cX8_notes 71 = .ok (.getfield 28, 3) := by decide +kernel
theorem dX8_notes_74 : decode cX8_notes 74 = .ok (.iconst 1, 1) := by decide +kernel
theorem dX8_notes_75 : decode cX8_notes 75 = .ok (.iadd, 1) := by decide +kernel
theorem dX8_notes_76 : decode cX8_notes 76 = .ok (.putfield 28, 3) := by decide +kernel
theorem dX8_notes_79 : decode cX8_notes 79 = .ok (.return_, 1) := by decide +kernel
theorem dX8_isSetting_0 : decode cX8_isSetting 0 = .ok (.iload_n 0, 1) := by decide +kernel
theorem dX8_isSetting_1 : decode cX8_isSetting 1 = .ok (.tableswitch 113 0 7 #[47, 55, 63, 71, 80, 89, 97, 105], 47) := by decide +kernel
theorem dX8_isSetting_48 : decode cX8_isSetting 48 = .ok (.iload_n 1, 1) := by decide +kernel
theorem dX8_isSetting_49 : decode cX8_isSetting 49 = .ok (.iconst 1, 1) := by decide +kernel
theorem dX8_isSetting_50 : decode cX8_isSetting 50 = .ok (.bipush 10, 2) := by decide +kernel
theorem dX8_isSetting_52 : decode cX8_isSetting 52 = .ok (.invokestatic 36, 3) := by decide +kernel
theorem dX8_isSetting_55 : decode cX8_isSetting 55 = .ok (.ireturn, 1) := by decide +kernel
theorem dX8_isSetting_56 : decode cX8_isSetting 56 = .ok (.iload_n 1, 1) := by decide +kernel
theorem dX8_isSetting_57 : decode cX8_isSetting 57 = .ok (.iconst 4, 1) := by decide +kernel
theorem dX8_isSetting_58 : decode cX8_isSetting 58 = .ok (.bipush 16, 2) := by decide +kernel
theorem dX8_isSetting_60 : decode cX8_isSetting 60 = .ok (.invokestatic 36, 3) := by decide +kernel
theorem dX8_isSetting_63 : decode cX8_isSetting 63 = .ok (.ireturn, 1) := by decide +kernel
theorem dX8_isSetting_64 : decode cX8_isSetting 64 = .ok (.iload_n 1, 1) := by decide +kernel
theorem dX8_isSetting_65 : decode cX8_isSetting 65 = .ok (.iconst 0, 1) := by decide +kernel
theorem dX8_isSetting_66 : decode cX8_isSetting 66 = .ok (.bipush 9, 2) := by decide +kernel
theorem dX8_isSetting_68 : decode cX8_isSetting 68 = .ok (.invokestatic 36, 3) := by decide +kernel
theorem dX8_isSetting_71 : decode cX8_isSetting 71 = .ok (.ireturn, 1) := by decide +kernel
theorem dX8_isSetting_72 : decode cX8_isSetting 72 = .ok (.iload_n 1, 1) := by decide +kernel
theorem dX8_isSetting_73 : decode cX8_isSetting 73 = .ok (.iconst 1, 1) := by decide +kernel
theorem dX8_isSetting_74 : decode cX8_isSetting 74 = .ok (.sipush 255, 3) := by decide +kernel
theorem dX8_isSetting_77 : decode cX8_isSetting 77 = .ok (.invokestatic 36, 3) := by decide +kernel
theorem dX8_isSetting_80 : decode cX8_isSetting 80 = .ok (.ireturn, 1) := by decide +kernel
theorem dX8_isSetting_81 : decode cX8_isSetting 81 = .ok (.iload_n 1, 1) := by decide +kernel
theorem dX8_isSetting_82 : decode cX8_isSetting 82 = .ok (.iconst 0, 1) := by decide +kernel
theorem dX8_isSetting_83 : decode cX8_isSetting 83 = .ok (.sipush 255, 3) := by decide +kernel
theorem dX8_isSetting_86 : decode cX8_isSetting 86 = .ok (.invokestatic 36, 3) := by decide +kernel
theorem dX8_isSetting_89 : decode cX8_isSetting 89 = .ok (.ireturn, 1) := by decide +kernel
theorem dX8_isSetting_90 : decode cX8_isSetting 90 = .ok (.iload_n 1, 1) := by decide +kernel
theorem dX8_isSetting_91 : decode cX8_isSetting 91 = .ok (.iconst 0, 1) := by decide +kernel
theorem dX8_isSetting_92 : decode cX8_isSetting 92 = .ok (.bipush 20, 2) := by decide +kernel
theorem dX8_isSetting_94 : decode cX8_isSetting 94 = .ok (.invokestatic 36, 3) := by decide +kernel
theorem dX8_isSetting_97 : decode cX8_isSetting 97 = .ok (.ireturn, 1) := by decide +kernel
theorem dX8_isSetting_98 : decode cX8_isSetting 98 = .ok (.iload_n 1, 1) := by decide +kernel
theorem dX8_isSetting_99 : decode cX8_isSetting 99 = .ok (.iconst 0, 1) := by decide +kernel
theorem dX8_isSetting_100 : decode cX8_isSetting 100 = .ok (.bipush 20, 2) := by decide +kernel
theorem dX8_isSetting_102 : decode cX8_isSetting 102 = .ok (.invokestatic 36, 3) := by decide +kernel
theorem dX8_isSetting_105 : decode cX8_isSetting 105 = .ok (.ireturn, 1) := by decide +kernel
theorem dX8_isSetting_106 : decode cX8_isSetting 106 = .ok (.iload_n 1, 1) := by decide +kernel
theorem dX8_isSetting_107 : decode cX8_isSetting 107 = .ok (.iconst 0, 1) := by decide +kernel
theorem dX8_isSetting_108 : decode cX8_isSetting 108 = .ok (.bipush 100, 2) := by decide +kernel
theorem dX8_isSetting_110 : decode cX8_isSetting 110 = .ok (.invokestatic 36, 3) := by decide +kernel
theorem dX8_isSetting_113 : decode cX8_isSetting 113 = .ok (.ireturn, 1) := by decide +kernel
theorem dX8_isSetting_114 : decode cX8_isSetting 114 = .ok (.iconst 0, 1) := by decide +kernel
theorem dX8_isSetting_115 : decode cX8_isSetting 115 = .ok (.ireturn, 1) := by decide +kernel
theorem dX8_set_0 : decode cX8_set 0 = .ok (.iload_n 1, 1) := by decide +kernel
theorem dX8_set_1 : decode cX8_set 1 = .ok (.iload_n 2, 1) := by decide +kernel
theorem dX8_set_2 : decode cX8_set 2 = .ok (.invokestatic 40, 3) := by decide +kernel
theorem dX8_set_5 : decode cX8_set 5 = .ok (.ifCond .ne 6, 3) := by decide +kernel
theorem dX8_set_8 : decode cX8_set 8 = .ok (.ldc 44, 2) := by decide +kernel
theorem dX8_set_10 : decode cX8_set 10 = .ok (.ireturn, 1) := by decide +kernel
theorem dX8_set_11 : decode cX8_set 11 = .ok (.iload_n 1, 1) := by decide +kernel
theorem dX8_set_12 : decode cX8_set 12 = .ok (.iconst 2, 1) := by decide +kernel
theorem dX8_set_13 : decode cX8_set 13 = .ok (.if_icmp .gt 16, 3) := by decide +kernel
theorem dX8_set_16 : decode cX8_set 16 = .ok (.aload_n 0, 1) := by decide +kernel
theorem dX8_set_17 : decode cX8_set 17 = .ok (.getfield 7, 3) := by decide +kernel
theorem dX8_set_20 : decode cX8_set 20 = .ok (.bipush 36, 2) := by decide +kernel
theorem dX8_set_22 : decode cX8_set 22 = .ok (.iaload, 1) := by decide +kernel
theorem dX8_set_23 : decode cX8_set 23 = .ok (.ifCond .le 6, 3) := by decide +kernel
theorem dX8_set_26 : decode cX8_set 26 = .ok (.ldc 45, 2) := by decide +kernel
theorem dX8_set_28 : decode cX8_set 28 = .ok (.ireturn, 1) := by decide +kernel
theorem dX8_set_29 : decode cX8_set 29 = .ok (.aload_n 0, 1) := by decide +kernel
theorem dX8_set_30 : decode cX8_set 30 = .ok (.invokevirtual 46, 3) := by decide +kernel
theorem dX8_set_33 : decode cX8_set 33 = .ok (.aload_n 0, 1) := by decide +kernel
theorem dX8_set_34 : decode cX8_set 34 = .ok (.getfield 7, 3) := by decide +kernel
theorem dX8_set_37 : decode cX8_set 37 = .ok (.iload_n 1, 1) := by decide +kernel
theorem dX8_set_38 : decode cX8_set 38 = .ok (.iaload, 1) := by decide +kernel
theorem dX8_set_39 : decode cX8_set 39 = .ok (.istore_n 3, 1) := by decide +kernel
theorem dX8_set_40 : decode cX8_set 40 = .ok (.aload_n 0, 1) := by decide +kernel
theorem dX8_set_41 : decode cX8_set 41 = .ok (.getfield 7, 3) := by decide +kernel
theorem dX8_set_44 : decode cX8_set 44 = .ok (.iload_n 1, 1) := by decide +kernel
theorem dX8_set_45 : decode cX8_set 45 = .ok (.iload_n 2, 1) := by decide +kernel
theorem dX8_set_46 : decode cX8_set 46 = .ok (.iastore, 1) := by decide +kernel
theorem dX8_set_47 : decode cX8_set 47 = .ok (.iload_n 3, 1) := by decide +kernel
theorem dX8_set_48 : decode cX8_set 48 = .ok (.ireturn, 1) := by decide +kernel
theorem dX8_wrongNumber_0 : decode cX8_wrongNumber 0 = .ok (.iload_n 0, 1) := by decide +kernel
theorem dX8_wrongNumber_1 : decode cX8_wrongNumber 1 = .ok (.iconst 0, 1) := by decide +kernel
theorem dX8_wrongNumber_2 : decode cX8_wrongNumber 2 = .ok (.bipush 9, 2) := by decide +kernel
theorem dX8_wrongNumber_4 : decode cX8_wrongNumber 4 = .ok (.invokestatic 36, 3) := by decide +kernel
theorem dX8_wrongNumber_7 : decode cX8_wrongNumber 7 = .ok (.ifCond .ne 5, 3) := by decide +kernel
theorem dX8_wrongNumber_10 : decode cX8_wrongNumber 10 = .ok (.iconst 0, 1) := by decide +kernel
theorem dX8_wrongNumber_11 : decode cX8_wrongNumber 11 = .ok (.ireturn, 1) := by decide +kernel
theorem dX8_wrongNumber_12 : decode cX8_wrongNumber 12 = .ok (.iload_n 1, 1) := by decide +kernel
theorem dX8_wrongNumber_13 : decode cX8_wrongNumber 13 = .ok (.iload_n 0, 1) := by decide +kernel
theorem dX8_wrongNumber_14 : decode cX8_wrongNumber 14 = .ok (.bipush 9, 2) := by decide +kernel
theorem dX8_wrongNumber_16 : decode cX8_wrongNumber 16 = .ok (.invokestatic 36, 3) := by decide +kernel
theorem dX8_wrongNumber_19 : decode cX8_wrongNumber 19 = .ok (.ifCond .ne 5, 3) := by decide +kernel
theorem dX8_wrongNumber_22 : decode cX8_wrongNumber 22 = .ok (.iconst 1, 1) := by decide +kernel
theorem dX8_wrongNumber_23 : decode cX8_wrongNumber 23 = .ok (.ireturn, 1) := by decide +kernel
theorem dX8_wrongNumber_24 : decode cX8_wrongNumber 24 = .ok (.iload_n 2, 1) := by decide +kernel
theorem dX8_wrongNumber_25 : decode cX8_wrongNumber 25 = .ok (.sipush (-20000), 3) := by decide +kernel
theorem dX8_wrongNumber_28 : decode cX8_wrongNumber 28 = .ok (.sipush 20000, 3) := by decide +kernel
theorem dX8_wrongNumber_31 : decode cX8_wrongNumber 31 = .ok (.invokestatic 36, 3) := by decide +kernel
theorem dX8_wrongNumber_34 : decode cX8_wrongNumber 34 = .ok (.ifCond .ne 5, 3) := by decide +kernel
theorem dX8_wrongNumber_37 : decode cX8_wrongNumber 37 = .ok (.iconst 2, 1) := by decide +kernel
theorem dX8_wrongNumber_38 : decode cX8_wrongNumber 38 = .ok (.ireturn, 1) := by decide +kernel
theorem dX8_wrongNumber_39 : decode cX8_wrongNumber 39 = .ok (.iload_n 3, 1) := by decide +kernel
theorem dX8_wrongNumber_40 : decode cX8_wrongNumber 40 = .ok (.sipush (-200), 3) := by decide +kernel
theorem dX8_wrongNumber_43 : decode cX8_wrongNumber 43 = .ok (.sipush 200, 3) := by decide +kernel
theorem dX8_wrongNumber_46 : decode cX8_wrongNumber 46 = .ok (.invokestatic 36, 3) := by decide +kernel
theorem dX8_wrongNumber_49 : decode cX8_wrongNumber 49 = .ok (.ifCond .ne 5, 3) := by decide +kernel
theorem dX8_wrongNumber_52 : decode cX8_wrongNumber 52 = .ok (.iconst 3, 1) := by decide +kernel
theorem dX8_wrongNumber_53 : decode cX8_wrongNumber 53 = .ok (.ireturn, 1) := by decide +kernel
theorem dX8_wrongNumber_54 : decode cX8_wrongNumber 54 = .ok (.iload 4, 2) := by decide +kernel
theorem dX8_wrongNumber_56 : decode cX8_wrongNumber 56 = .ok (.bipush 50, 2) := by decide +kernel
theorem dX8_wrongNumber_58 : decode cX8_wrongNumber 58 = .ok (.sipush 1600, 3) := by decide +kernel
theorem dX8_wrongNumber_61 : decode cX8_wrongNumber 61 = .ok (.invokestatic 36, 3) := by decide +kernel
theorem dX8_wrongNumber_64 : decode cX8_wrongNumber 64 = .ok (.ifCond .ne 5, 3) := by decide +kernel
theorem dX8_wrongNumber_67 : decode cX8_wrongNumber 67 = .ok (.iconst 4, 1) := by decide +kernel
theorem dX8_wrongNumber_68 : decode cX8_wrongNumber 68 = .ok (.ireturn, 1) := by decide +kernel
theorem dX8_wrongNumber_69 : decode cX8_wrongNumber 69 = .ok (.iload 5, 2) := by decide +kernel
theorem dX8_wrongNumber_71 : decode cX8_wrongNumber 71 = .ok (.iconst 0, 1) := by decide +kernel
theorem dX8_wrongNumber_72 : decode cX8_wrongNumber 72 = .ok (.sipush 255, 3) := by decide +kernel
theorem dX8_wrongNumber_75 : decode cX8_wrongNumber 75 = .ok (.invokestatic 36, 3) := by decide +kernel
theorem dX8_wrongNumber_78 : decode cX8_wrongNumber 78 = .ok (.ifCond .eq 8, 3) := by decide +kernel
theorem dX8_wrongNumber_81 : decode cX8_wrongNumber 81 = .ok (.ldc 49, 2) := by decide +kernel
theorem dX8_wrongNumber_83 : decode cX8_wrongNumber 83 = .ok (.goto 4, 3) := by decide +kernel
theorem dX8_wrongNumber_86 : decode cX8_wrongNumber 86 = .ok (.iconst 5, 1) := by decide +kernel
theorem dX8_wrongNumber_87 : decode cX8_wrongNumber 87 = .ok (.ireturn, 1) := by decide +kernel
theorem dX8_adds_0 : decode cX8_adds 0 = .ok (.bipush 9, 2) := by decide +kernel
theorem dX8_adds_2 : decode cX8_adds 2 = .ok (.bipush 6, 2) := by decide +kernel
theorem dX8_adds_4 : decode cX8_adds 4 = .ok (.aload_n 0, 1) := by decide +kernel
theorem dX8_adds_5 : decode cX8_adds 5 = .ok (.bipush 8, 2) := by decide +kernel
theorem dX8_adds_7 : decode cX8_adds 7 = .ok (.iaload, 1) := by decide +kernel
theorem dX8_adds_8 : decode cX8_adds 8 = .ok (.imul, 1) := by decide +kernel
theorem dX8_adds_9 : decode cX8_adds 9 = .ok (.iadd, 1) := by decide +kernel
theorem dX8_adds_10 : decode cX8_adds 10 = .ok (.istore 7, 2) := by decide +kernel
theorem dX8_adds_12 : decode cX8_adds 12 = .ok (.aload_n 0, 1) := by decide +kernel
theorem dX8_adds_13 : decode cX8_adds 13 = .ok (.iload 7, 2) := by decide +kernel
theorem dX8_adds_15 : decode cX8_adds 15 = .ok (.iload_n 1, 1) := by decide +kernel
theorem dX8_adds_16 : decode cX8_adds 16 = .ok (.iastore, 1) := by decide +kernel
theorem dX8_adds_17 : decode cX8_adds 17 = .ok (.aload_n 0, 1) := by decide +kernel
theorem dX8_adds_18 : decode cX8_adds 18 = .ok (.iload 7, 2) := by decide +kernel
theorem dX8_adds_20 : decode cX8_adds 20 = .ok (.iconst 1, 1) := by decide +kernel
theorem dX8_adds_21 : decode cX8_adds 21 = .ok (.iadd, 1) := by decide +kernel
theorem dX8_adds_22 : decode cX8_adds 22 = .ok (.iload_n 2, 1) := by decide +kernel
theorem dX8_adds_23 : decode cX8_adds 23 = .ok (.iastore, 1) := by decide +kernel
theorem dX8_adds_24 : decode cX8_adds 24 = .ok (.aload_n 0, 1) := by decide +kernel
theorem dX8_adds_25 : decode cX8_adds 25 = .ok (.iload 7, 2) := by decide +kernel
theorem dX8_adds_27 : decode cX8_adds 27 = .ok (.iconst 2, 1) := by decide +kernel
theorem dX8_adds_28 : decode cX8_adds 28 = .ok (.iadd, 1) := by decide +kernel
theorem dX8_adds_29 : decode cX8_adds 29 = .ok (.iload_n 3, 1) := by decide +kernel
theorem dX8_adds_30 : decode cX8_adds 30 = .ok (.iastore, 1) := by decide +kernel
theorem dX8_adds_31 : decode cX8_adds 31 = .ok (.aload_n 0, 1) := by decide +kernel
theorem dX8_adds_32 : decode cX8_adds 32 = .ok (.iload 7, 2) := by decide +kernel
theorem dX8_adds_34 : decode cX8_adds 34 = .ok (.iconst 3, 1) := by decide +kernel
theorem dX8_adds_35 : decode cX8_adds 35 = .ok (.iadd, 1) := by decide +kernel
theorem dX8_adds_36 : decode cX8_adds 36 = .ok (.iload 4, 2) := by decide +kernel
theorem dX8_adds_38 : decode cX8_adds 38 = .ok (.iastore, 1) := by decide +kernel
theorem dX8_adds_39 : decode cX8_adds 39 = .ok (.aload_n 0, 1) := by decide +kernel
theorem dX8_adds_40 : decode cX8_adds 40 = .ok (.iload 7, 2) := by decide +kernel
theorem dX8_adds_42 : decode cX8_adds 42 = .ok (.iconst 4, 1) := by decide +kernel
theorem dX8_adds_43 : decode cX8_adds 43 = .ok (.iadd, 1) := by decide +kernel
theorem dX8_adds_44 : decode cX8_adds 44 = .ok (.iload 5, 2) := by decide +kernel
theorem dX8_adds_46 : decode cX8_adds 46 = .ok (.iastore, 1) := by decide +kernel
theorem dX8_adds_47 : decode cX8_adds 47 = .ok (.aload_n 0, 1) := by decide +kernel
theorem dX8_adds_48 : decode cX8_adds 48 = .ok (.iload 7, 2) := by decide +kernel
theorem dX8_adds_50 : decode cX8_adds 50 = .ok (.iconst 5, 1) := by decide +kernel
theorem dX8_adds_51 : decode cX8_adds 51 = .ok (.iadd, 1) := by decide +kernel
theorem dX8_adds_52 : decode cX8_adds 52 = .ok (.iload 6, 2) := by decide +kernel
theorem dX8_adds_54 : decode cX8_adds 54 = .ok (.iastore, 1) := by decide +kernel
theorem dX8_adds_55 : decode cX8_adds 55 = .ok (.aload_n 0, 1) := by decide +kernel
theorem dX8_adds_56 : decode cX8_adds 56 = .ok (.bipush 8, 2) := by decide +kernel
theorem dX8_adds_58 : decode cX8_adds 58 = .ok (.dup2, 1) := by decide +kernel
theorem dX8_adds_59 : decode cX8_adds 59 = .ok (.iaload, 1) := by decide +kernel
theorem dX8_adds_60 : decode cX8_adds 60 = .ok (.iconst 1, 1) := by decide +kernel
theorem dX8_adds_61 : decode cX8_adds 61 = .ok (.iadd, 1) := by decide +kernel
theorem dX8_adds_62 : decode cX8_adds 62 = .ok (.iastore, 1) := by decide +kernel
theorem dX8_adds_63 : decode cX8_adds 63 = .ok (.return_, 1) := by decide +kernel
theorem dX8_thing_0 : decode cX8_thing 0 = .ok (.iload_n 1, 1) := by decide +kernel
theorem dX8_thing_1 : decode cX8_thing 1 = .ok (.iload_n 2, 1) := by decide +kernel
theorem dX8_thing_2 : decode cX8_thing 2 = .ok (.iload_n 3, 1) := by decide +kernel
theorem dX8_thing_3 : decode cX8_thing 3 = .ok (.iload 4, 2) := by decide +kernel
theorem dX8_thing_5 : decode cX8_thing 5 = .ok (.iload 5, 2) := by decide +kernel
theorem dX8_thing_7 : decode cX8_thing 7 = .ok (.iload 6, 2) := by decide +kernel
theorem dX8_thing_9 : decode cX8_thing 9 = .ok (.invokestatic 50, 3) := by decide +kernel
theorem dX8_thing_12 : decode cX8_thing 12 = .ok (.ldc 49, 2) := by decide +kernel
theorem dX8_thing_14 : decode cX8_thing 14 = .ok (.if_icmp .eq 6, 3) := by decide +kernel
theorem dX8_thing_17 : decode cX8_thing 17 = .ok (.ldc 44, 2) := by decide +kernel
theorem dX8_thing_19 : decode cX8_thing 19 = .ok (.ireturn, 1) := by decide +kernel
theorem dX8_thing_20 : decode cX8_thing 20 = .ok (.aload_n 0, 1) := by decide +kernel
theorem dX8_thing_21 : decode cX8_thing 21 = .ok (.getfield 7, 3) := by decide +kernel
theorem dX8_thing_24 : decode cX8_thing 24 = .ok (.bipush 8, 2) := by decide +kernel
theorem dX8_thing_26 : decode cX8_thing 26 = .ok (.iaload, 1) := by decide +kernel
theorem dX8_thing_27 : decode cX8_thing 27 = .ok (.iconst 4, 1) := by decide +kernel
theorem dX8_thing_28 : decode cX8_thing 28 = .ok (.if_icmp .ne 6, 3) := by decide +kernel
theorem dX8_thing_31 : decode cX8_thing 31 = .ok (.ldc 54, 2) := by decide +kernel
theorem dX8_thing_33 : decode cX8_thing 33 = .ok (.ireturn, 1) := by decide +kernel
theorem dX8_thing_34 : decode cX8_thing 34 = .ok (.aload_n 0, 1) := by decide +kernel
theorem dX8_thing_35 : decode cX8_thing 35 = .ok (.invokevirtual 46, 3) := by decide +kernel
theorem dX8_thing_38 : decode cX8_thing 38 = .ok (.aload_n 0, 1) := by decide +kernel
theorem dX8_thing_39 : decode cX8_thing 39 = .ok (.getfield 7, 3) := by decide +kernel
theorem dX8_thing_42 : decode cX8_thing 42 = .ok (.iload_n 1, 1) := by decide +kernel
theorem dX8_thing_43 : decode cX8_thing 43 = .ok (.iload_n 2, 1) := by decide +kernel
theorem dX8_thing_44 : decode cX8_thing 44 = .ok (.iload_n 3, 1) := by decide +kernel
theorem dX8_thing_45 : decode cX8_thing 45 = .ok (.iload 4, 2) := by decide +kernel
theorem dX8_thing_47 : decode cX8_thing 47 = .ok (.iload 5, 2) := by decide +kernel
theorem dX8_thing_49 : decode cX8_thing 49 = .ok (.iload 6, 2) := by decide +kernel
theorem dX8_thing_51 : decode cX8_thing 51 = .ok (.invokestatic 55, 3) := by decide +kernel
theorem dX8_thing_54 : decode cX8_thing 54 = .ok (.aload_n 0, 1) := by decide +kernel
theorem dX8_thing_55 : decode cX8_thing 55 = .ok (.getfield 7, 3) := by decide +kernel
theorem dX8_thing_58 : decode cX8_thing 58 = .ok (.bipush 8, 2) := by decide +kernel
theorem dX8_thing_60 : decode cX8_thing 60 = .ok (.iaload, 1) := by decide +kernel
theorem dX8_thing_61 : decode cX8_thing 61 = .ok (.iconst 1, 1) := by decide +kernel
theorem dX8_thing_62 : decode cX8_thing 62 = .ok (.isub, 1) := by decide +kernel
theorem dX8_thing_63 : decode cX8_thing 63 = .ok (.ireturn, 1) := by decide +kernel
theorem dX8_isThing_0 : decode cX8_isThing 0 = .ok (.iload_n 1, 1) := by decide +kernel
theorem dX8_isThing_1 : decode cX8_isThing 1 = .ok (.iconst 0, 1) := by decide +kernel
theorem dX8_isThing_2 : decode cX8_isThing 2 = .ok (.aload_n 0, 1) := by decide +kernel
theorem dX8_isThing_3 : decode cX8_isThing 3 = .ok (.getfield 7, 3) := by decide +kernel
theorem dX8_isThing_6 : decode cX8_isThing 6 = .ok (.bipush 8, 2) := by decide +kernel
theorem dX8_isThing_8 : decode cX8_isThing 8 = .ok (.iaload, 1) := by decide +kernel
theorem dX8_isThing_9 : decode cX8_isThing 9 = .ok (.iconst 1, 1) := by decide +kernel
theorem dX8_isThing_10 : decode cX8_isThing 10 = .ok (.isub, 1) := by decide +kernel
theorem dX8_isThing_11 : decode cX8_isThing 11 = .ok (.invokestatic 36, 3) := by decide +kernel
theorem dX8_isThing_14 : decode cX8_isThing 14 = .ok (.ireturn, 1) := by decide +kernel
theorem dX8_placeAt_0 : decode cX8_placeAt 0 = .ok (.bipush 9, 2) := by decide +kernel
theorem dX8_placeAt_2 : decode cX8_placeAt 2 = .ok (.bipush 6, 2) := by decide +kernel
theorem dX8_placeAt_4 : decode cX8_placeAt 4 = .ok (.iload_n 1, 1) := by decide +kernel
theorem dX8_placeAt_5 : decode cX8_placeAt 5 = .ok (.imul, 1) := by decide +kernel
theorem dX8_placeAt_6 : decode cX8_placeAt 6 = .ok (.iadd, 1) := by decide +kernel
theorem dX8_placeAt_7 : decode cX8_placeAt 7 = .ok (.istore_n 3, 1) := by decide +kernel
theorem dX8_placeAt_8 : decode cX8_placeAt 8 = .ok (.aload_n 0, 1) := by decide +kernel
theorem dX8_placeAt_9 : decode cX8_placeAt 9 = .ok (.iload_n 3, 1) := by decide +kernel
theorem dX8_placeAt_10 : decode cX8_placeAt 10 = .ok (.iconst 2, 1) := by decide +kernel
theorem dX8_placeAt_11 : decode cX8_placeAt 11 = .ok (.iadd, 1) := by decide +kernel
theorem dX8_placeAt_12 : decode cX8_placeAt 12 = .ok (.iaload, 1) := by decide +kernel
theorem dX8_placeAt_13 : decode cX8_placeAt 13 = .ok (.aload_n 0, 1) := by decide +kernel
theorem dX8_placeAt_14 : decode cX8_placeAt 14 = .ok (.iload_n 3, 1) := by decide +kernel
theorem dX8_placeAt_15 : decode cX8_placeAt 15 = .ok (.iconst 3, 1) := by decide +kernel
theorem dX8_placeAt_16 : decode cX8_placeAt 16 = .ok (.iadd, 1) := by decide +kernel
theorem dX8_placeAt_17 : decode cX8_placeAt 17 = .ok (.iaload, 1) := by decide +kernel
theorem dX8_placeAt_18 : decode cX8_placeAt 18 = .ok (.iload_n 2, 1) := by decide +kernel
theorem dX8_placeAt_19 : decode cX8_placeAt 19 = .ok (.imul, 1) := by decide +kernel
theorem dX8_placeAt_20 : decode cX8_placeAt 20 = .ok (.iadd, 1) := by decide +kernel
theorem dX8_placeAt_21 : decode cX8_placeAt 21 = .ok (.ireturn, 1) := by decide +kernel
theorem dX8_turn_0 : decode cX8_turn 0 = .ok (.aload_n 0, 1) := by decide +kernel
theorem dX8_turn_1 : decode cX8_turn 1 = .ok (.iload_n 1, 1) := by decide +kernel
theorem dX8_turn_2 : decode cX8_turn 2 = .ok (.invokevirtual 59, 3) := by decide +kernel
theorem dX8_turn_5 : decode cX8_turn 5 = .ok (.ifCond .eq 16, 3) := by decide +kernel
theorem dX8_turn_8 : decode cX8_turn 8 = .ok (.iload_n 2, 1) := by decide +kernel
theorem dX8_turn_9 : decode cX8_turn 9 = .ok (.sipush (-200), 3) := by decide +kernel
theorem dX8_turn_12 : decode cX8_turn 12 = .ok (.sipush 200, 3) := by decide +kernel
theorem dX8_turn_15 : decode cX8_turn 15 = .ok (.invokestatic 36, 3) := by decide +kernel
theorem dX8_turn_18 : decode cX8_turn 18 = .ok (.ifCond .ne 6, 3) := by decide +kernel
theorem dX8_turn_21 : decode cX8_turn 21 = .ok (.ldc 44, 2) := by decide +kernel
theorem dX8_turn_23 : decode cX8_turn 23 = .ok (.ireturn, 1) := by decide +kernel
theorem dX8_turn_24 : decode cX8_turn 24 = .ok (.aload_n 0, 1) := by decide +kernel
theorem dX8_turn_25 : decode cX8_turn 25 = .ok (.invokevirtual 46, 3) := by decide +kernel
theorem dX8_turn_28 : decode cX8_turn 28 = .ok (.bipush 9, 2) := by decide +kernel
theorem dX8_turn_30 : decode cX8_turn 30 = .ok (.bipush 6, 2) := by decide +kernel
theorem dX8_turn_32 : decode cX8_turn 32 = .ok (.iload_n 1, 1) := by decide +kernel
theorem dX8_turn_33 : decode cX8_turn 33 = .ok (.imul, 1) := by decide +kernel
theorem dX8_turn_34 : decode cX8_turn 34 = .ok (.iadd, 1) := by decide +kernel
theorem dX8_turn_35 : decode cX8_turn 35 = .ok (.istore_n 3, 1) := by decide +kernel
theorem dX8_turn_36 : decode cX8_turn 36 = .ok (.aload_n 0, 1) := by decide +kernel
theorem dX8_turn_37 : decode cX8_turn 37 = .ok (.getfield 7, 3) := by decide +kernel
theorem dX8_turn_40 : decode cX8_turn 40 = .ok (.iload_n 3, 1) := by decide +kernel
theorem dX8_turn_41 : decode cX8_turn 41 = .ok (.iconst 3, 1) := by decide +kernel
theorem dX8_turn_42 : decode cX8_turn 42 = .ok (.iadd, 1) := by decide +kernel
theorem dX8_turn_43 : decode cX8_turn 43 = .ok (.iaload, 1) := by decide +kernel
theorem dX8_turn_44 : decode cX8_turn 44 = .ok (.istore 4, 2) := by decide +kernel
theorem dX8_turn_46 : decode cX8_turn 46 = .ok (.aload_n 0, 1) := by decide +kernel
theorem dX8_turn_47 : decode cX8_turn 47 = .ok (.getfield 7, 3) := by decide +kernel
theorem dX8_turn_50 : decode cX8_turn 50 = .ok (.iload_n 3, 1) := by decide +kernel
theorem dX8_turn_51 : decode cX8_turn 51 = .ok (.iconst 2, 1) := by decide +kernel
theorem dX8_turn_52 : decode cX8_turn 52 = .ok (.iadd, 1) := by decide +kernel
theorem dX8_turn_53 : decode cX8_turn 53 = .ok (.aload_n 0, 1) := by decide +kernel
theorem dX8_turn_54 : decode cX8_turn 54 = .ok (.getfield 7, 3) := by decide +kernel
theorem dX8_turn_57 : decode cX8_turn 57 = .ok (.iload_n 1, 1) := by decide +kernel
theorem dX8_turn_58 : decode cX8_turn 58 = .ok (.aload_n 0, 1) := by decide +kernel
theorem dX8_turn_59 : decode cX8_turn 59 = .ok (.getfield 7, 3) := by decide +kernel
theorem dX8_turn_62 : decode cX8_turn 62 = .ok (.bipush 33, 2) := by decide +kernel
theorem dX8_turn_64 : decode cX8_turn 64 = .ok (.iaload, 1) := by decide +kernel
theorem dX8_turn_65 : decode cX8_turn 65 = .ok (.invokestatic 63, 3) := by decide +kernel
theorem dX8_turn_68 : decode cX8_turn 68 = .ok (.iload_n 2, 1) := by decide +kernel
theorem dX8_turn_69 : decode cX8_turn 69 = .ok (.aload_n 0, 1) := by decide +kernel
theorem dX8_turn_70 : decode cX8_turn 70 = .ok (.getfield 7, 3) := by decide +kernel
theorem dX8_turn_73 : decode cX8_turn 73 = .ok (.bipush 33, 2) := by decide +kernel
theorem dX8_turn_75 : decode cX8_turn 75 = .ok (.iaload, 1) := by decide +kernel
theorem dX8_turn_76 : decode cX8_turn 76 = .ok (.imul, 1) := by decide +kernel
theorem dX8_turn_77 : decode cX8_turn 77 = .ok (.isub, 1) := by decide +kernel
theorem dX8_turn_78 : decode cX8_turn 78 = .ok (.iastore, 1) := by decide +kernel
theorem dX8_turn_79 : decode cX8_turn 79 = .ok (.aload_n 0, 1) := by decide +kernel
theorem dX8_turn_80 : decode cX8_turn 80 = .ok (.getfield 7, 3) := by decide +kernel
theorem dX8_turn_83 : decode cX8_turn 83 = .ok (.iload_n 3, 1) := by decide +kernel
theorem dX8_turn_84 : decode cX8_turn 84 = .ok (.iconst 3, 1) := by decide +kernel
theorem dX8_turn_85 : decode cX8_turn 85 = .ok (.iadd, 1) := by decide +kernel
theorem dX8_turn_86 : decode cX8_turn 86 = .ok (.iload_n 2, 1) := by decide +kernel
theorem dX8_turn_87 : decode cX8_turn 87 = .ok (.iastore, 1) := by decide +kernel
theorem dX8_turn_88 : decode cX8_turn 88 = .ok (.iload 4, 2) := by decide +kernel
theorem dX8_turn_90 : decode cX8_turn 90 = .ok (.ireturn, 1) := by decide +kernel
theorem dX8_thingOf_0 : decode cX8_thingOf 0 = .ok (.aload_n 0, 1) := by decide +kernel
theorem dX8_thingOf_1 : decode cX8_thingOf 1 = .ok (.iload_n 1, 1) := by decide +kernel
theorem dX8_thingOf_2 : decode cX8_thingOf 2 = .ok (.invokevirtual 59, 3) := by decide +kernel
theorem dX8_thingOf_5 : decode cX8_thingOf 5 = .ok (.ifCond .eq 13, 3) := by decide +kernel
theorem dX8_thingOf_8 : decode cX8_thingOf 8 = .ok (.iload_n 2, 1) := by decide +kernel
theorem dX8_thingOf_9 : decode cX8_thingOf 9 = .ok (.iconst 0, 1) := by decide +kernel
theorem dX8_thingOf_10 : decode cX8_thingOf 10 = .ok (.bipush 6, 2) := by decide +kernel
theorem dX8_thingOf_12 : decode cX8_thingOf 12 = .ok (.invokestatic 36, 3) := by decide +kernel
theorem dX8_thingOf_15 : decode cX8_thingOf 15 = .ok (.ifCond .ne 6, 3) := by decide +kernel
theorem dX8_thingOf_18 : decode cX8_thingOf 18 = .ok (.ldc 44, 2) := by decide +kernel
theorem dX8_thingOf_20 : decode cX8_thingOf 20 = .ok (.ireturn, 1) := by decide +kernel
theorem dX8_thingOf_21 : decode cX8_thingOf 21 = .ok (.iload_n 2, 1) := by decide +kernel
theorem dX8_thingOf_22 : decode cX8_thingOf 22 = .ok (.bipush 6, 2) := by decide +kernel
theorem dX8_thingOf_24 : decode cX8_thingOf 24 = .ok (.if_icmp .ne 21, 3) := by decide +kernel
theorem dX8_thingOf_27 : decode cX8_thingOf 27 = .ok (.aload_n 0, 1) := by decide +kernel
theorem dX8_thingOf_28 : decode cX8_thingOf 28 = .ok (.getfield 7, 3) := by decide +kernel
theorem dX8_thingOf_31 : decode cX8_thingOf 31 = .ok (.iload_n 1, 1) := by decide +kernel
theorem dX8_thingOf_32 : decode cX8_thingOf 32 = .ok (.aload_n 0, 1) := by decide +kernel
theorem dX8_thingOf_33 : decode cX8_thingOf 33 = .ok (.getfield 7, 3) := by decide +kernel
theorem dX8_thingOf_36 : decode cX8_thingOf 36 = .ok (.bipush 33, 2) := by decide +kernel
theorem dX8_thingOf_38 : decode cX8_thingOf 38 = .ok (.iaload, 1) := by decide +kernel
theorem dX8_thingOf_39 : decode cX8_thingOf 39 = .ok (.invokestatic 63, 3) := by decide +kernel
theorem dX8_thingOf_42 : decode cX8_thingOf 42 = .ok (.goto 17, 3) := by decide +kernel
theorem dX8_thingOf_45 : decode cX8_thingOf 45 = .ok (.aload_n 0, 1) := by decide +kernel
theorem dX8_thingOf_46 : decode cX8_thingOf 46 = .ok (.getfield 7, 3) := by decide +kernel
theorem dX8_thingOf_49 : decode cX8_thingOf 49 = .ok (.bipush 9, 2) := by decide +kernel
theorem dX8_thingOf_51 : decode cX8_thingOf 51 = .ok (.bipush 6, 2) := by decide +kernel
theorem dX8_thingOf_53 : decode cX8_thingOf 53 = .ok (.iload_n 1, 1) := by decide +kernel
theorem dX8_thingOf_54 : decode cX8_thingOf 54 = .ok (.imul, 1) := by decide +kernel
theorem dX8_thingOf_55 : decode cX8_thingOf 55 = .ok (.iadd, 1) := by decide +kernel
theorem dX8_thingOf_56 : decode cX8_thingOf 56 = .ok (.iload_n 2, 1) := by decide +kernel
theorem dX8_thingOf_57 : decode cX8_thingOf 57 = .ok (.iadd, 1) := by decide +kernel
theorem dX8_thingOf_58 : decode cX8_thingOf 58 = .ok (.iaload, 1) := by decide +kernel
theorem dX8_thingOf_59 : decode cX8_thingOf 59 = .ok (.ireturn, 1) := by decide +kernel
theorem dX8_blind_0 : decode cX8_blind 0 = .ok (.iload_n 1, 1) := by decide +kernel
theorem dX8_blind_1 : decode cX8_blind 1 = .ok (.iconst 0, 1) := by decide +kernel
theorem dX8_blind_2 : decode cX8_blind 2 = .ok (.bipush 9, 2) := by decide +kernel
theorem dX8_blind_4 : decode cX8_blind 4 = .ok (.invokestatic 36, 3) := by decide +kernel
theorem dX8_blind_7 : decode cX8_blind 7 = .ok (.ifCond .eq 12, 3) := by decide +kernel
theorem dX8_blind_10 : decode cX8_blind 10 = .ok (.iload_n 2, 1) := by decide +kernel
theorem dX8_blind_11 : decode cX8_blind 11 = .ok (.iconst 0, 1) := by decide +kernel
theorem dX8_blind_12 : decode cX8_blind 12 = .ok (.iconst 1, 1) := by decide +kernel
theorem dX8_blind_13 : decode cX8_blind 13 = .ok (.invokestatic 36, 3) := by decide +kernel
theorem dX8_blind_16 : decode cX8_blind 16 = .ok (.ifCond .ne 6, 3) := by decide +kernel
theorem dX8_blind_19 : decode cX8_blind 19 = .ok (.ldc 44, 2) := by decide +kernel
theorem dX8_blind_21 : decode cX8_blind 21 = .ok (.ireturn, 1) := by decide +kernel
theorem dX8_blind_22 : decode cX8_blind 22 = .ok (.aload_n 0, 1) := by decide +kernel
theorem dX8_blind_23 : decode cX8_blind 23 = .ok (.getfield 7, 3) := by decide +kernel
theorem dX8_blind_26 : decode cX8_blind 26 = .ok (.bipush 34, 2) := by decide +kernel
theorem dX8_blind_28 : decode cX8_blind 28 = .ok (.iaload, 1) := by decide +kernel
theorem dX8_blind_29 : decode cX8_blind 29 = .ok (.iload_n 1, 1) := by decide +kernel
theorem dX8_blind_30 : decode cX8_blind 30 = .ok (.ishr, 1) := by decide +kernel
theorem dX8_blind_31 : decode cX8_blind 31 = .ok (.iconst 1, 1) := by decide +kernel
theorem dX8_blind_32 : decode cX8_blind 32 = .ok (.iand, 1) := by decide +kernel
theorem dX8_blind_33 : decode cX8_blind 33 = .ok (.iload_n 2, 1) := by decide +kernel
theorem dX8_blind_34 : decode cX8_blind 34 = .ok (.if_icmp .ne 6, 3) := by decide +kernel
theorem dX8_blind_37 : decode cX8_blind 37 = .ok (.ldc 45, 2) := by decide +kernel
theorem dX8_blind_39 : decode cX8_blind 39 = .ok (.ireturn, 1) := by decide +kernel
theorem dX8_blind_40 : decode cX8_blind 40 = .ok (.aload_n 0, 1) := by decide +kernel
theorem dX8_blind_41 : decode cX8_blind 41 = .ok (.invokevirtual 46, 3) := by decide +kernel
theorem dX8_blind_44 : decode cX8_blind 44 = .ok (.aload_n 0, 1) := by decide +kernel
theorem dX8_blind_45 : decode cX8_blind 45 = .ok (.getfield 7, 3) := by decide +kernel
theorem dX8_blind_48 : decode cX8_blind 48 = .ok (.bipush 34, 2) := by decide +kernel
theorem dX8_blind_50 : decode cX8_blind 50 = .ok (.dup2, 1) := by decide +kernel
theorem dX8_blind_51 : decode cX8_blind 51 = .ok (.iaload, 1) := by decide +kernel
theorem dX8_blind_52 : decode cX8_blind 52 = .ok (.iconst 1, 1) := by decide +kernel
theorem dX8_blind_53 : decode cX8_blind 53 = .ok (.iload_n 1, 1) := by decide +kernel
theorem dX8_blind_54 : decode cX8_blind 54 = .ok (.ishl, 1) := by decide +kernel
theorem dX8_blind_55 : decode cX8_blind 55 = .ok (.ixor, 1) := by decide +kernel
theorem dX8_blind_56 : decode cX8_blind 56 = .ok (.iastore, 1) := by decide +kernel
theorem dX8_blind_57 : decode cX8_blind 57 = .ok (.aload_n 0, 1) := by decide +kernel
theorem dX8_blind_58 : decode cX8_blind 58 = .ok (.getfield 7, 3) := by decide +kernel
theorem dX8_blind_61 : decode cX8_blind 61 = .ok (.bipush 34, 2) := by decide +kernel
theorem dX8_blind_63 : decode cX8_blind 63 = .ok (.iaload, 1) := by decide +kernel
theorem dX8_blind_64 : decode cX8_blind 64 = .ok (.invokestatic 67, 3) := by decide +kernel
theorem dX8_blind_67 : decode cX8_blind 67 = .ok (.ireturn, 1) := by decide +kernel
theorem dX8_isDark_0 : decode cX8_isDark 0 = .ok (.aload_n 0, 1) := by decide +kernel
theorem dX8_isDark_1 : decode cX8_isDark 1 = .ok (.iconst 5, 1) := by decide +kernel
theorem dX8_isDark_2 : decode cX8_isDark 2 = .ok (.iaload, 1) := by decide +kernel
theorem dX8_isDark_3 : decode cX8_isDark 3 = .ok (.ifCond .eq 19, 3) := by decide +kernel
theorem dX8_isDark_6 : decode cX8_isDark 6 = .ok (.iload_n 1, 1) := by decide +kernel
theorem dX8_isDark_7 : decode cX8_isDark 7 = .ok (.aload_n 0, 1) := by decide +kernel
theorem dX8_isDark_8 : decode cX8_isDark 8 = .ok (.iconst 5, 1) := by decide +kernel
theorem dX8_isDark_9 : decode cX8_isDark 9 = .ok (.iaload, 1) := by decide +kernel
theorem dX8_isDark_10 : decode cX8_isDark 10 = .ok (.irem, 1) := by decide +kernel
theorem dX8_isDark_11 : decode cX8_isDark 11 = .ok (.aload_n 0, 1) := by decide +kernel
theorem dX8_isDark_12 : decode cX8_isDark 12 = .ok (.bipush 6, 2) := by decide +kernel
theorem dX8_isDark_14 : decode cX8_isDark 14 = .ok (.iaload, 1) := by decide +kernel
theorem dX8_isDark_15 : decode cX8_isDark 15 = .ok (.if_icmp .ge 7, 3) := by decide +kernel
theorem dX8_isDark_18 : decode cX8_isDark 18 = .ok (.iconst 1, 1) := by decide +kernel
theorem dX8_isDark_19 : decode cX8_isDark 19 = .ok (.goto 4, 3) := by decide +kernel
theorem dX8_isDark_22 : decode cX8_isDark 22 = .ok (.iconst 0, 1) := by decide +kernel
theorem dX8_isDark_23 : decode cX8_isDark 23 = .ok (.ireturn, 1) := by decide +kernel
theorem dX8_covers_0 : decode cX8_covers 0 = .ok (.bipush 9, 2) := by decide +kernel
theorem dX8_covers_2 : decode cX8_covers 2 = .ok (.bipush 6, 2) := by decide +kernel
theorem dX8_covers_4 : decode cX8_covers 4 = .ok (.iload_n 1, 1) := by decide +kernel
theorem dX8_covers_5 : decode cX8_covers 5 = .ok (.imul, 1) := by decide +kernel
theorem dX8_covers_6 : decode cX8_covers 6 = .ok (.iadd, 1) := by decide +kernel
theorem dX8_covers_7 : decode cX8_covers 7 = .ok (.istore 5, 2) := by decide +kernel
theorem dX8_covers_9 : decode cX8_covers 9 = .ok (.aload_n 0, 1) := by decide +kernel
theorem dX8_covers_10 : decode cX8_covers 10 = .ok (.iload_n 1, 1) := by decide +kernel
theorem dX8_covers_11 : decode cX8_covers 11 = .ok (.iload 4, 2) := by decide +kernel
theorem dX8_covers_13 : decode cX8_covers 13 = .ok (.invokestatic 63, 3) := by decide +kernel
theorem dX8_covers_16 : decode cX8_covers 16 = .ok (.istore 6, 2) := by decide +kernel
theorem dX8_covers_18 : decode cX8_covers 18 = .ok (.bipush 100, 2) := by decide +kernel
theorem dX8_covers_20 : decode cX8_covers 20 = .ok (.iload_n 3, 1) := by decide +kernel
theorem dX8_covers_21 : decode cX8_covers 21 = .ok (.imul, 1) := by decide +kernel
theorem dX8_covers_22 : decode cX8_covers 22 = .ok (.bipush 50, 2) := by decide +kernel
theorem dX8_covers_24 : decode cX8_covers 24 = .ok (.iadd, 1) := by decide +kernel
theorem dX8_covers_25 : decode cX8_covers 25 = .ok (.istore 7, 2) := by decide +kernel
theorem dX8_covers_27 : decode cX8_covers 27 = .ok (.iload_n 2, 1) := by decide +kernel
theorem dX8_covers_28 : decode cX8_covers 28 = .ok (.aload_n 0, 1) := by decide +kernel
theorem dX8_covers_29 : decode cX8_covers 29 = .ok (.iload 5, 2) := by decide +kernel
theorem dX8_covers_31 : decode cX8_covers 31 = .ok (.iaload, 1) := by decide +kernel
theorem dX8_covers_32 : decode cX8_covers 32 = .ok (.if_icmp .lt 38, 3) := by decide +kernel
theorem dX8_covers_35 : decode cX8_covers 35 = .ok (.iload_n 2, 1) := by decide +kernel
theorem dX8_covers_36 : decode cX8_covers 36 = .ok (.aload_n 0, 1) := by decide +kernel
theorem dX8_covers_37 : decode cX8_covers 37 = .ok (.iload 5, 2) := by decide +kernel
theorem dX8_covers_39 : decode cX8_covers 39 = .ok (.iconst 1, 1) := by decide +kernel
theorem dX8_covers_40 : decode cX8_covers 40 = .ok (.iadd, 1) := by decide +kernel
theorem dX8_covers_41 : decode cX8_covers 41 = .ok (.iaload, 1) := by decide +kernel
theorem dX8_covers_42 : decode cX8_covers 42 = .ok (.if_icmp .gt 28, 3) := by decide +kernel
theorem dX8_covers_45 : decode cX8_covers 45 = .ok (.iload 6, 2) := by decide +kernel
theorem dX8_covers_47 : decode cX8_covers 47 = .ok (.iload 7, 2) := by decide +kernel
theorem dX8_covers_49 : decode cX8_covers 49 = .ok (.if_icmp .gt 21, 3) := by decide +kernel
theorem dX8_covers_52 : decode cX8_covers 52 = .ok (.iload 6, 2) := by decide +kernel
theorem dX8_covers_54 : decode cX8_covers 54 = .ok (.aload_n 0, 1) := by decide +kernel
theorem dX8_covers_55 : decode cX8_covers 55 = .ok (.iload 5, 2) := by decide +kernel
theorem dX8_covers_57 : decode cX8_covers 57 = .ok (.iconst 4, 1) := by decide +kernel
theorem dX8_covers_58 : decode cX8_covers 58 = .ok (.iadd, 1) := by decide +kernel
theorem dX8_covers_59 : decode cX8_covers 59 = .ok (.iaload, 1) := by decide +kernel
theorem dX8_covers_60 : decode cX8_covers 60 = .ok (.iadd, 1) := by decide +kernel
theorem dX8_covers_61 : decode cX8_covers 61 = .ok (.iload 7, 2) := by decide +kernel
theorem dX8_covers_63 : decode cX8_covers 63 = .ok (.if_icmp .le 7, 3) := by decide +kernel
theorem dX8_covers_66 : decode cX8_covers 66 = .ok (.iconst 1, 1) := by decide +kernel
theorem dX8_covers_67 : decode cX8_covers 67 = .ok (.goto 4, 3) := by decide +kernel
theorem dX8_covers_70 : decode cX8_covers 70 = .ok (.iconst 0, 1) := by decide +kernel
theorem dX8_covers_71 : decode cX8_covers 71 = .ok (.ireturn, 1) := by decide +kernel
theorem dX8_shown_0 : decode cX8_shown 0 = .ok (.aload_n 0, 1) := by decide +kernel
theorem dX8_shown_1 : decode cX8_shown 1 = .ok (.iconst 4, 1) := by decide +kernel
theorem dX8_shown_2 : decode cX8_shown 2 = .ok (.iaload, 1) := by decide +kernel
theorem dX8_shown_3 : decode cX8_shown 3 = .ok (.istore 4, 2) := by decide +kernel
theorem dX8_shown_5 : decode cX8_shown 5 = .ok (.iconst 0, 1) := by decide +kernel
theorem dX8_shown_6 : decode cX8_shown 6 = .ok (.istore 5, 2) := by decide +kernel
theorem dX8_shown_8 : decode cX8_shown 8 = .ok (.iload 5, 2) := by decide +kernel
theorem dX8_shown_10 : decode cX8_shown 10 = .ok (.aload_n 0, 1) := by decide +kernel
theorem dX8_shown_11 : decode cX8_shown 11 = .ok (.bipush 8, 2) := by decide +kernel
theorem dX8_shown_13 : decode cX8_shown 13 = .ok (.iaload, 1) := by decide +kernel
theorem dX8_shown_14 : decode cX8_shown 14 = .ok (.if_icmp .ge 40, 3) := by decide +kernel
theorem dX8_shown_17 : decode cX8_shown 17 = .ok (.aload_n 0, 1) := by decide +kernel
theorem dX8_shown_18 : decode cX8_shown 18 = .ok (.iload 5, 2) := by decide +kernel
theorem dX8_shown_20 : decode cX8_shown 20 = .ok (.iload_n 1, 1) := by decide +kernel
theorem dX8_shown_21 : decode cX8_shown 21 = .ok (.iload_n 2, 1) := by decide +kernel
theorem dX8_shown_22 : decode cX8_shown 22 = .ok (.iload_n 3, 1) := by decide +kernel
theorem dX8_shown_23 : decode cX8_shown 23 = .ok (.invokestatic 71, 3) := by decide +kernel
theorem dX8_shown_26 : decode cX8_shown 26 = .ok (.ifCond .eq 18, 3) := by decide +kernel
theorem dX8_shown_29 : decode cX8_shown 29 = .ok (.aload_n 0, 1) := by decide +kernel
theorem dX8_shown_30 : decode cX8_shown 30 = .ok (.bipush 9, 2) := by decide +kernel
theorem dX8_shown_32 : decode cX8_shown 32 = .ok (.bipush 6, 2) := by decide +kernel
theorem dX8_shown_34 : decode cX8_shown 34 = .ok (.iload 5, 2) := by decide +kernel
theorem dX8_shown_36 : decode cX8_shown 36 = .ok (.imul, 1) := by decide +kernel
theorem dX8_shown_37 : decode cX8_shown 37 = .ok (.iadd, 1) := by decide +kernel
theorem dX8_shown_38 : decode cX8_shown 38 = .ok (.iconst 5, 1) := by decide +kernel
theorem dX8_shown_39 : decode cX8_shown 39 = .ok (.iadd, 1) := by decide +kernel
theorem dX8_shown_40 : decode cX8_shown 40 = .ok (.iaload, 1) := by decide +kernel
theorem dX8_shown_41 : decode cX8_shown 41 = .ok (.goto 5, 3) := by decide +kernel
theorem dX8_shown_44 : decode cX8_shown 44 = .ok (.iload 4, 2) := by decide +kernel
theorem dX8_shown_46 : decode cX8_shown 46 = .ok (.istore 4, 2) := by decide +kernel
theorem dX8_shown_48 : decode cX8_shown 48 = .ok (.iinc 5 1, 3) := by decide +kernel
theorem dX8_shown_51 : decode cX8_shown 51 = .ok (.goto (-43), 3) := by decide +kernel
theorem dX8_shown_54 : decode cX8_shown 54 = .ok (.aload_n 0, 1) := by decide +kernel
theorem dX8_shown_55 : decode cX8_shown 55 = .ok (.iload_n 3, 1) := by decide +kernel
theorem dX8_shown_56 : decode cX8_shown 56 = .ok (.invokestatic 75, 3) := by decide +kernel
theorem dX8_shown_59 : decode cX8_shown 59 = .ok (.ifCond .eq 16, 3) := by decide +kernel
theorem dX8_shown_62 : decode cX8_shown 62 = .ok (.iload 4, 2) := by decide +kernel
theorem dX8_shown_64 : decode cX8_shown 64 = .ok (.aload_n 0, 1) := by decide +kernel
theorem dX8_shown_65 : decode cX8_shown 65 = .ok (.bipush 7, 2) := by decide +kernel
theorem dX8_shown_67 : decode cX8_shown 67 = .ok (.iaload, 1) := by decide +kernel
theorem dX8_shown_68 : decode cX8_shown 68 = .ok (.imul, 1) := by decide +kernel
theorem dX8_shown_69 : decode cX8_shown 69 = .ok (.bipush 100, 2) := by decide +kernel
theorem dX8_shown_71 : decode cX8_shown 71 = .ok (.idiv, 1) := by decide +kernel
theorem dX8_shown_72 : decode cX8_shown 72 = .ok (.goto 5, 3) := by decide +kernel
theorem dX8_shown_75 : decode cX8_shown 75 = .ok (.iload 4, 2) := by decide +kernel
theorem dX8_shown_77 : decode cX8_shown 77 = .ok (.ireturn, 1) := by decide +kernel
theorem dX8_isRow_0 : decode cX8_isRow 0 = .ok (.iload_n 1, 1) := by decide +kernel
theorem dX8_isRow_1 : decode cX8_isRow 1 = .ok (.iconst 0, 1) := by decide +kernel
theorem dX8_isRow_2 : decode cX8_isRow 2 = .ok (.aload_n 0, 1) := by decide +kernel
theorem dX8_isRow_3 : decode cX8_isRow 3 = .ok (.getfield 7, 3) := by decide +kernel
theorem dX8_isRow_6 : decode cX8_isRow 6 = .ok (.iconst 0, 1) := by decide +kernel
theorem dX8_isRow_7 : decode cX8_isRow 7 = .ok (.iaload, 1) := by decide +kernel
theorem dX8_isRow_8 : decode cX8_isRow 8 = .ok (.iconst 1, 1) := by decide +kernel
theorem dX8_isRow_9 : decode cX8_isRow 9 = .ok (.isub, 1) := by decide +kernel
theorem dX8_isRow_10 : decode cX8_isRow 10 = .ok (.invokestatic 36, 3) := by decide +kernel
theorem dX8_isRow_13 : decode cX8_isRow 13 = .ok (.ireturn, 1) := by decide +kernel
theorem dX8_isColumn_0 : decode cX8_isColumn 0 = .ok (.iload_n 1, 1) := by decide +kernel
theorem dX8_isColumn_1 : decode cX8_isColumn 1 = .ok (.iconst 0, 1) := by decide +kernel
theorem dX8_isColumn_2 : decode cX8_isColumn 2 = .ok (.aload_n 0, 1) := by decide +kernel
theorem dX8_isColumn_3 : decode cX8_isColumn 3 = .ok (.getfield 7, 3) := by decide +kernel
theorem dX8_isColumn_6 : decode cX8_isColumn 6 = .ok (.iconst 1, 1) := by decide +kernel
theorem dX8_isColumn_7 : decode cX8_isColumn 7 = .ok (.iaload, 1) := by decide +kernel
theorem dX8_isColumn_8 : decode cX8_isColumn 8 = .ok (.iconst 1, 1) := by decide +kernel
theorem dX8_isColumn_9 : decode cX8_isColumn 9 = .ok (.isub, 1) := by decide +kernel
theorem dX8_isColumn_10 : decode cX8_isColumn 10 = .ok (.invokestatic 36, 3) := by decide +kernel
theorem dX8_isColumn_13 : decode cX8_isColumn 13 = .ok (.ireturn, 1) := by decide +kernel
theorem dX8_shows_0 : decode cX8_shows 0 = .ok (.aload_n 0, 1) := by decide +kernel
theorem dX8_shows_1 : decode cX8_shows 1 = .ok (.iload_n 1, 1) := by decide +kernel
theorem dX8_shows_2 : decode cX8_shows 2 = .ok (.invokevirtual 79, 3) := by decide +kernel
theorem dX8_shows_5 : decode cX8_shows 5 = .ok (.ifCond .eq 35, 3) := by decide +kernel
theorem dX8_shows_8 : decode cX8_shows 8 = .ok (.aload_n 0, 1) := by decide +kernel
theorem dX8_shows_9 : decode cX8_shows 9 = .ok (.iload_n 2, 1) := by decide +kernel
theorem dX8_shows_10 : decode cX8_shows 10 = .ok (.invokevirtual 82, 3) := by decide +kernel
theorem dX8_shows_13 : decode cX8_shows 13 = .ok (.ifCond .eq 27, 3) := by decide +kernel
theorem dX8_shows_16 : decode cX8_shows 16 = .ok (.iload_n 3, 1) := by decide +kernel
theorem dX8_shows_17 : decode cX8_shows 17 = .ok (.iconst 0, 1) := by decide +kernel
theorem dX8_shows_18 : decode cX8_shows 18 = .ok (.sipush 20000, 3) := by decide +kernel
theorem dX8_shows_21 : decode cX8_shows 21 = .ok (.invokestatic 36, 3) := by decide +kernel
theorem dX8_shows_24 : decode cX8_shows 24 = .ok (.ifCond .eq 16, 3) := by decide +kernel
theorem dX8_shows_27 : decode cX8_shows 27 = .ok (.aload_n 0, 1) := by decide +kernel
theorem dX8_shows_28 : decode cX8_shows 28 = .ok (.getfield 7, 3) := by decide +kernel
theorem dX8_shows_31 : decode cX8_shows 31 = .ok (.iload_n 1, 1) := by decide +kernel
theorem dX8_shows_32 : decode cX8_shows 32 = .ok (.iload_n 2, 1) := by decide +kernel
theorem dX8_shows_33 : decode cX8_shows 33 = .ok (.iload_n 3, 1) := by decide +kernel
theorem dX8_shows_34 : decode cX8_shows 34 = .ok (.invokestatic 85, 3) := by decide +kernel
theorem dX8_shows_37 : decode cX8_shows 37 = .ok (.goto 5, 3) := by decide +kernel
theorem dX8_shows_40 : decode cX8_shows 40 = .ok (.ldc 44, 2) := by decide +kernel
theorem dX8_shows_42 : decode cX8_shows 42 = .ok (.ireturn, 1) := by decide +kernel
theorem dX8_drops_0 : decode cX8_drops 0 = .ok (.bipush 37, 2) := by decide +kernel
theorem dX8_drops_2 : decode cX8_drops 2 = .ok (.sipush 162, 3) := by decide +kernel
theorem dX8_drops_5 : decode cX8_drops 5 = .ok (.iload_n 1, 1) := by decide +kernel
theorem dX8_drops_6 : decode cX8_drops 6 = .ok (.imul, 1) := by decide +kernel
theorem dX8_drops_7 : decode cX8_drops 7 = .ok (.iadd, 1) := by decide +kernel
theorem dX8_drops_8 : decode cX8_drops 8 = .ok (.istore_n 2, 1) := by decide +kernel
theorem dX8_drops_9 : decode cX8_drops 9 = .ok (.iload_n 2, 1) := by decide +kernel
theorem dX8_drops_10 : decode cX8_drops 10 = .ok (.bipush 37, 2) := by decide +kernel
theorem dX8_drops_12 : decode cX8_drops 12 = .ok (.sipush 162, 3) := by decide +kernel
theorem dX8_drops_15 : decode cX8_drops 15 = .ok (.aload_n 0, 1) := by decide +kernel
theorem dX8_drops_16 : decode cX8_drops 16 = .ok (.bipush 36, 2) := by decide +kernel
theorem dX8_drops_18 : decode cX8_drops 18 = .ok (.iaload, 1) := by decide +kernel
theorem dX8_drops_19 : decode cX8_drops 19 = .ok (.iconst 1, 1) := by decide +kernel
theorem dX8_drops_20 : decode cX8_drops 20 = .ok (.isub, 1) := by decide +kernel
theorem dX8_drops_21 : decode cX8_drops 21 = .ok (.imul, 1) := by decide +kernel
theorem dX8_drops_22 : decode cX8_drops 22 = .ok (.iadd, 1) := by decide +kernel
theorem dX8_drops_23 : decode cX8_drops 23 = .ok (.if_icmp .ge 19, 3) := by decide +kernel
theorem dX8_drops_26 : decode cX8_drops 26 = .ok (.aload_n 0, 1) := by decide +kernel
theorem dX8_drops_27 : decode cX8_drops 27 = .ok (.iload_n 2, 1) := by decide +kernel
theorem dX8_drops_28 : decode cX8_drops 28 = .ok (.aload_n 0, 1) := by decide +kernel
theorem dX8_drops_29 : decode cX8_drops 29 = .ok (.iload_n 2, 1) := by decide +kernel
theorem dX8_drops_30 : decode cX8_drops 30 = .ok (.sipush 162, 3) := by decide +kernel
theorem dX8_drops_33 : decode cX8_drops 33 = .ok (.iadd, 1) := by decide +kernel
theorem dX8_drops_34 : decode cX8_drops 34 = .ok (.iaload, 1) := by decide +kernel
theorem dX8_drops_35 : decode cX8_drops 35 = .ok (.iastore, 1) := by decide +kernel
theorem dX8_drops_36 : decode cX8_drops 36 = .ok (.iinc 2 1, 3) := by decide +kernel
theorem dX8_drops_39 : decode cX8_drops 39 = .ok (.goto (-30), 3) := by decide +kernel
theorem dX8_drops_42 : decode cX8_drops 42 = .ok (.aload_n 0, 1) := by decide +kernel
theorem dX8_drops_43 : decode cX8_drops 43 = .ok (.bipush 36, 2) := by decide +kernel
theorem dX8_drops_45 : decode cX8_drops 45 = .ok (.dup2, 1) := by decide +kernel
theorem dX8_drops_46 : decode cX8_drops 46 = .ok (.iaload, 1) := by decide +kernel
theorem dX8_drops_47 : decode cX8_drops 47 = .ok (.iconst 1, 1) := by decide +kernel
theorem dX8_drops_48 : decode cX8_drops 48 = .ok (.isub, 1) := by decide +kernel
theorem dX8_drops_49 : decode cX8_drops 49 = .ok (.iastore, 1) := by decide +kernel
theorem dX8_drops_50 : decode cX8_drops 50 = .ok (.return_, 1) := by decide +kernel
theorem dX8_takes_0 : decode cX8_takes 0 = .ok (.aload_n 0, 1) := by decide +kernel
theorem dX8_takes_1 : decode cX8_takes 1 = .ok (.bipush 36, 2) := by decide +kernel
theorem dX8_takes_3 : decode cX8_takes 3 = .ok (.iaload, 1) := by decide +kernel
theorem dX8_takes_4 : decode cX8_takes 4 = .ok (.iconst 5, 1) := by decide +kernel
theorem dX8_takes_5 : decode cX8_takes 5 = .ok (.if_icmp .ne 8, 3) := by decide +kernel
theorem dX8_takes_8 : decode cX8_takes 8 = .ok (.aload_n 0, 1) := by decide +kernel
theorem dX8_takes_9 : decode cX8_takes 9 = .ok (.iconst 0, 1) := by decide +kernel
theorem dX8_takes_10 : decode cX8_takes 10 = .ok (.invokestatic 89, 3) := by decide +kernel
theorem dX8_takes_13 : decode cX8_takes 13 = .ok (.bipush 37, 2) := by decide +kernel
theorem dX8_takes_15 : decode cX8_takes 15 = .ok (.sipush 162, 3) := by decide +kernel
theorem dX8_takes_18 : decode cX8_takes 18 = .ok (.aload_n 0, 1) := by decide +kernel
theorem dX8_takes_19 : decode cX8_takes 19 = .ok (.bipush 36, 2) := by decide +kernel
theorem dX8_takes_21 : decode cX8_takes 21 = .ok (.iaload, 1) := by decide +kernel
theorem dX8_takes_22 : decode cX8_takes 22 = .ok (.imul, 1) := by decide +kernel
theorem dX8_takes_23 : decode cX8_takes 23 = .ok (.iadd, 1) := by decide +kernel
theorem dX8_takes_24 : decode cX8_takes 24 = .ok (.istore_n 1, 1) := by decide +kernel
theorem dX8_takes_25 : decode cX8_takes 25 = .ok (.aload_n 0, 1) := by decide +kernel
theorem dX8_takes_26 : decode cX8_takes 26 = .ok (.iload_n 1, 1) := by decide +kernel
theorem dX8_takes_27 : decode cX8_takes 27 = .ok (.aload_n 0, 1) := by decide +kernel
theorem dX8_takes_28 : decode cX8_takes 28 = .ok (.bipush 33, 2) := by decide +kernel
theorem dX8_takes_30 : decode cX8_takes 30 = .ok (.iaload, 1) := by decide +kernel
theorem dX8_takes_31 : decode cX8_takes 31 = .ok (.iastore, 1) := by decide +kernel
theorem dX8_takes_32 : decode cX8_takes 32 = .ok (.aload_n 0, 1) := by decide +kernel
theorem dX8_takes_33 : decode cX8_takes 33 = .ok (.iload_n 1, 1) := by decide +kernel
theorem dX8_takes_34 : decode cX8_takes 34 = .ok (.iconst 1, 1) := by decide +kernel
theorem dX8_takes_35 : decode cX8_takes 35 = .ok (.iadd, 1) := by decide +kernel
theorem dX8_takes_36 : decode cX8_takes 36 = .ok (.aload_n 0, 1) := by decide +kernel
theorem dX8_takes_37 : decode cX8_takes 37 = .ok (.bipush 34, 2) := by decide +kernel
theorem dX8_takes_39 : decode cX8_takes 39 = .ok (.iaload, 1) := by decide +kernel
theorem dX8_takes_40 : decode cX8_takes 40 = .ok (.iastore, 1) := by decide +kernel
theorem dX8_takes_41 : decode cX8_takes 41 = .ok (.iconst 0, 1) := by decide +kernel
theorem dX8_takes_42 : decode cX8_takes 42 = .ok (.istore_n 2, 1) := by decide +kernel
theorem dX8_takes_43 : decode cX8_takes 43 = .ok (.iload_n 2, 1) := by decide +kernel
theorem dX8_takes_44 : decode cX8_takes 44 = .ok (.aload_n 0, 1) := by decide +kernel
theorem dX8_takes_45 : decode cX8_takes 45 = .ok (.iconst 0, 1) := by decide +kernel
theorem dX8_takes_46 : decode cX8_takes 46 = .ok (.iaload, 1) := by decide +kernel
theorem dX8_takes_47 : decode cX8_takes 47 = .ok (.if_icmp .ge 52, 3) := by decide +kernel
theorem dX8_takes_50 : decode cX8_takes 50 = .ok (.iconst 0, 1) := by decide +kernel
theorem dX8_takes_51 : decode cX8_takes 51 = .ok (.istore_n 3, 1) := by decide +kernel
theorem dX8_takes_52 : decode cX8_takes 52 = .ok (.iload_n 3, 1) := by decide +kernel
theorem dX8_takes_53 : decode cX8_takes 53 = .ok (.aload_n 0, 1) := by decide +kernel
theorem dX8_takes_54 : decode cX8_takes 54 = .ok (.iconst 1, 1) := by decide +kernel
theorem dX8_takes_55 : decode cX8_takes 55 = .ok (.iaload, 1) := by decide +kernel
theorem dX8_takes_56 : decode cX8_takes 56 = .ok (.if_icmp .ge 37, 3) := by decide +kernel
theorem dX8_takes_59 : decode cX8_takes 59 = .ok (.aload_n 0, 1) := by decide +kernel
theorem dX8_takes_60 : decode cX8_takes 60 = .ok (.iload_n 1, 1) := by decide +kernel
theorem dX8_takes_61 : decode cX8_takes 61 = .ok (.iconst 2, 1) := by decide +kernel
theorem dX8_takes_62 : decode cX8_takes 62 = .ok (.iadd, 1) := by decide +kernel
theorem dX8_takes_63 : decode cX8_takes 63 = .ok (.bipush 16, 2) := by decide +kernel
theorem dX8_takes_65 : decode cX8_takes 65 = .ok (.iload_n 2, 1) := by decide +kernel
theorem dX8_takes_66 : decode cX8_takes 66 = .ok (.imul, 1) := by decide +kernel
theorem dX8_takes_67 : decode cX8_takes 67 = .ok (.iadd, 1) := by decide +kernel
theorem dX8_takes_68 : decode cX8_takes 68 = .ok (.iload_n 3, 1) := by decide +kernel
theorem dX8_takes_69 : decode cX8_takes 69 = .ok (.iadd, 1) := by decide +kernel
theorem dX8_takes_70 : decode cX8_takes 70 = .ok (.aload_n 0, 1) := by decide +kernel
theorem dX8_takes_71 : decode cX8_takes 71 = .ok (.iload_n 2, 1) := by decide +kernel
theorem dX8_takes_72 : decode cX8_takes 72 = .ok (.iload_n 3, 1) := by decide +kernel
theorem dX8_takes_73 : decode cX8_takes 73 = .ok (.aload_n 0, 1) := by decide +kernel
theorem dX8_takes_74 : decode cX8_takes 74 = .ok (.bipush 33, 2) := by decide +kernel
theorem dX8_takes_76 : decode cX8_takes 76 = .ok (.iaload, 1) := by decide +kernel
theorem dX8_takes_77 : decode cX8_takes 77 = .ok (.iload_n 2, 1) := by decide +kernel
theorem dX8_takes_78 : decode cX8_takes 78 = .ok (.aload_n 0, 1) := by decide +kernel
theorem dX8_takes_79 : decode cX8_takes 79 = .ok (.iconst 2, 1) := by decide +kernel
theorem dX8_takes_80 : decode cX8_takes 80 = .ok (.iaload, 1) := by decide +kernel
theorem dX8_takes_81 : decode cX8_takes 81 = .ok (.imul, 1) := by decide +kernel
theorem dX8_takes_82 : decode cX8_takes 82 = .ok (.iadd, 1) := by decide +kernel
theorem dX8_takes_83 : decode cX8_takes 83 = .ok (.invokestatic 85, 3) := by decide +kernel
theorem dX8_takes_86 : decode cX8_takes 86 = .ok (.iastore, 1) := by decide +kernel
theorem dX8_takes_87 : decode cX8_takes 87 = .ok (.iinc 3 1, 3) := by decide +kernel
theorem dX8_takes_90 : decode cX8_takes 90 = .ok (.goto (-38), 3) := by decide +kernel
theorem dX8_takes_93 : decode cX8_takes 93 = .ok (.iinc 2 1, 3) := by decide +kernel
theorem dX8_takes_96 : decode cX8_takes 96 = .ok (.goto (-53), 3) := by decide +kernel
theorem dX8_takes_99 : decode cX8_takes 99 = .ok (.aload_n 0, 1) := by decide +kernel
theorem dX8_takes_100 : decode cX8_takes 100 = .ok (.bipush 36, 2) := by decide +kernel
theorem dX8_takes_102 : decode cX8_takes 102 = .ok (.dup2, 1) := by decide +kernel
theorem dX8_takes_103 : decode cX8_takes 103 = .ok (.iaload, 1) := by decide +kernel
theorem dX8_takes_104 : decode cX8_takes 104 = .ok (.iconst 1, 1) := by decide +kernel
theorem dX8_takes_105 : decode cX8_takes 105 = .ok (.iadd, 1) := by decide +kernel
theorem dX8_takes_106 : decode cX8_takes 106 = .ok (.iastore, 1) := by decide +kernel
theorem dX8_takes_107 : decode cX8_takes 107 = .ok (.aload_n 0, 1) := by decide +kernel
theorem dX8_takes_108 : decode cX8_takes 108 = .ok (.bipush 35, 2) := by decide +kernel
theorem dX8_takes_110 : decode cX8_takes 110 = .ok (.dup2, 1) := by decide +kernel
theorem dX8_takes_111 : decode cX8_takes 111 = .ok (.iaload, 1) := by decide +kernel
theorem dX8_takes_112 : decode cX8_takes 112 = .ok (.iconst 1, 1) := by decide +kernel
theorem dX8_takes_113 : decode cX8_takes 113 = .ok (.iadd, 1) := by decide +kernel
theorem dX8_takes_114 : decode cX8_takes 114 = .ok (.iastore, 1) := by decide +kernel
theorem dX8_takes_115 : decode cX8_takes 115 = .ok (.return_, 1) := by decide +kernel
theorem dX8_shoot_0 : decode cX8_shoot 0 = .ok (.aload_n 0, 1) := by decide +kernel
theorem dX8_shoot_1 : decode cX8_shoot 1 = .ok (.invokevirtual 46, 3) := by decide +kernel
theorem dX8_shoot_4 : decode cX8_shoot 4 = .ok (.aload_n 0, 1) := by decide +kernel
theorem dX8_shoot_5 : decode cX8_shoot 5 = .ok (.getfield 7, 3) := by decide +kernel
theorem dX8_shoot_8 : decode cX8_shoot 8 = .ok (.invokestatic 93, 3) := by decide +kernel
theorem dX8_shoot_11 : decode cX8_shoot 11 = .ok (.aload_n 0, 1) := by decide +kernel
theorem dX8_shoot_12 : decode cX8_shoot 12 = .ok (.getfield 7, 3) := by decide +kernel
theorem dX8_shoot_15 : decode cX8_shoot 15 = .ok (.bipush 36, 2) := by decide +kernel
theorem dX8_shoot_17 : decode cX8_shoot 17 = .ok (.iaload, 1) := by decide +kernel
theorem dX8_shoot_18 : decode cX8_shoot 18 = .ok (.ireturn, 1) := by decide +kernel
theorem dX8_isFrame_0 : decode cX8_isFrame 0 = .ok (.iload_n 1, 1) := by decide +kernel
theorem dX8_isFrame_1 : decode cX8_isFrame 1 = .ok (.iconst 0, 1) := by decide +kernel
theorem dX8_isFrame_2 : decode cX8_isFrame 2 = .ok (.aload_n 0, 1) := by decide +kernel
theorem dX8_isFrame_3 : decode cX8_isFrame 3 = .ok (.getfield 7, 3) := by decide +kernel
theorem dX8_isFrame_6 : decode cX8_isFrame 6 = .ok (.bipush 36, 2) := by decide +kernel
theorem dX8_isFrame_8 : decode cX8_isFrame 8 = .ok (.iaload, 1) := by decide +kernel
theorem dX8_isFrame_9 : decode cX8_isFrame 9 = .ok (.iconst 1, 1) := by decide +kernel
theorem dX8_isFrame_10 : decode cX8_isFrame 10 = .ok (.isub, 1) := by decide +kernel
theorem dX8_isFrame_11 : decode cX8_isFrame 11 = .ok (.invokestatic 36, 3) := by decide +kernel
theorem dX8_isFrame_14 : decode cX8_isFrame 14 = .ok (.ireturn, 1) := by decide +kernel
theorem dX8_forget_0 : decode cX8_forget 0 = .ok (.aload_n 0, 1) := by decide +kernel
theorem dX8_forget_1 : decode cX8_forget 1 = .ok (.iload_n 1, 1) := by decide +kernel
theorem dX8_forget_2 : decode cX8_forget 2 = .ok (.invokevirtual 97, 3) := by decide +kernel
theorem dX8_forget_5 : decode cX8_forget 5 = .ok (.ifCond .ne 6, 3) := by decide +kernel
theorem dX8_forget_8 : decode cX8_forget 8 = .ok (.ldc 44, 2) := by decide +kernel
theorem dX8_forget_10 : decode cX8_forget 10 = .ok (.ireturn, 1) := by decide +kernel
theorem dX8_forget_11 : decode cX8_forget 11 = .ok (.aload_n 0, 1) := by decide +kernel
theorem dX8_forget_12 : decode cX8_forget 12 = .ok (.invokevirtual 46, 3) := by decide +kernel
theorem dX8_forget_15 : decode cX8_forget 15 = .ok (.aload_n 0, 1) := by decide +kernel
theorem dX8_forget_16 : decode cX8_forget 16 = .ok (.getfield 7, 3) := by decide +kernel
theorem dX8_forget_19 : decode cX8_forget 19 = .ok (.iload_n 1, 1) := by decide +kernel
theorem dX8_forget_20 : decode cX8_forget 20 = .ok (.invokestatic 89, 3) := by decide +kernel
theorem dX8_forget_23 : decode cX8_forget 23 = .ok (.aload_n 0, 1) := by decide +kernel
theorem dX8_forget_24 : decode cX8_forget 24 = .ok (.getfield 7, 3) := by decide +kernel
theorem dX8_forget_27 : decode cX8_forget 27 = .ok (.bipush 36, 2) := by decide +kernel
theorem dX8_forget_29 : decode cX8_forget 29 = .ok (.iaload, 1) := by decide +kernel
theorem dX8_forget_30 : decode cX8_forget 30 = .ok (.ireturn, 1) := by decide +kernel
theorem dX8_frameValue_0 : decode cX8_frameValue 0 = .ok (.aload_n 0, 1) := by decide +kernel
theorem dX8_frameValue_1 : decode cX8_frameValue 1 = .ok (.getfield 7, 3) := by decide +kernel
theorem dX8_frameValue_4 : decode cX8_frameValue 4 = .ok (.bipush 37, 2) := by decide +kernel
theorem dX8_frameValue_6 : decode cX8_frameValue 6 = .ok (.sipush 162, 3) := by decide +kernel
theorem dX8_frameValue_9 : decode cX8_frameValue 9 = .ok (.iload_n 1, 1) := by decide +kernel
theorem dX8_frameValue_10 : decode cX8_frameValue 10 = .ok (.imul, 1) := by decide +kernel
theorem dX8_frameValue_11 : decode cX8_frameValue 11 = .ok (.iadd, 1) := by decide +kernel
theorem dX8_frameValue_12 : decode cX8_frameValue 12 = .ok (.iload_n 2, 1) := by decide +kernel
theorem dX8_frameValue_13 : decode cX8_frameValue 13 = .ok (.iadd, 1) := by decide +kernel
theorem dX8_frameValue_14 : decode cX8_frameValue 14 = .ok (.iaload, 1) := by decide +kernel
theorem dX8_frameValue_15 : decode cX8_frameValue 15 = .ok (.ireturn, 1) := by decide +kernel
theorem dX8_isSeen_0 : decode cX8_isSeen 0 = .ok (.aload_n 0, 1) := by decide +kernel
theorem dX8_isSeen_1 : decode cX8_isSeen 1 = .ok (.iload_n 1, 1) := by decide +kernel
theorem dX8_isSeen_2 : decode cX8_isSeen 2 = .ok (.iconst 1, 1) := by decide +kernel
theorem dX8_isSeen_3 : decode cX8_isSeen 3 = .ok (.invokevirtual 100, 3) := by decide +kernel
theorem dX8_isSeen_6 : decode cX8_isSeen 6 = .ok (.iload_n 2, 1) := by decide +kernel
theorem dX8_isSeen_7 : decode cX8_isSeen 7 = .ok (.invokestatic 104, 3) := by decide +kernel
theorem dX8_isSeen_10 : decode cX8_isSeen 10 = .ok (.ifCond .ne 7, 3) := by decide +kernel
theorem dX8_isSeen_13 : decode cX8_isSeen 13 = .ok (.iconst 1, 1) := by decide +kernel
theorem dX8_isSeen_14 : decode cX8_isSeen 14 = .ok (.goto 4, 3) := by decide +kernel
theorem dX8_isSeen_17 : decode cX8_isSeen 17 = .ok (.iconst 0, 1) := by decide +kernel
theorem dX8_isSeen_18 : decode cX8_isSeen 18 = .ok (.ireturn, 1) := by decide +kernel
theorem dX8_pixelOf_0 : decode cX8_pixelOf 0 = .ok (.aload_n 0, 1) := by decide +kernel
theorem dX8_pixelOf_1 : decode cX8_pixelOf 1 = .ok (.iload_n 1, 1) := by decide +kernel
theorem dX8_pixelOf_2 : decode cX8_pixelOf 2 = .ok (.iconst 2, 1) := by decide +kernel
theorem dX8_pixelOf_3 : decode cX8_pixelOf 3 = .ok (.bipush 16, 2) := by decide +kernel
theorem dX8_pixelOf_5 : decode cX8_pixelOf 5 = .ok (.iload_n 2, 1) := by decide +kernel
theorem dX8_pixelOf_6 : decode cX8_pixelOf 6 = .ok (.imul, 1) := by decide +kernel
theorem dX8_pixelOf_7 : decode cX8_pixelOf 7 = .ok (.iadd, 1) := by decide +kernel
theorem dX8_pixelOf_8 : decode cX8_pixelOf 8 = .ok (.iload_n 3, 1) := by decide +kernel
theorem dX8_pixelOf_9 : decode cX8_pixelOf 9 = .ok (.iadd, 1) := by decide +kernel
theorem dX8_pixelOf_10 : decode cX8_pixelOf 10 = .ok (.invokevirtual 100, 3) := by decide +kernel
theorem dX8_pixelOf_13 : decode cX8_pixelOf 13 = .ok (.ireturn, 1) := by decide +kernel
theorem dX8_isEdge_0 : decode cX8_isEdge 0 = .ok (.aload_n 0, 1) := by decide +kernel
theorem dX8_isEdge_1 : decode cX8_isEdge 1 = .ok (.iload_n 1, 1) := by decide +kernel
theorem dX8_isEdge_2 : decode cX8_isEdge 2 = .ok (.iload_n 2, 1) := by decide +kernel
theorem dX8_isEdge_3 : decode cX8_isEdge 3 = .ok (.invokevirtual 107, 3) := by decide +kernel
theorem dX8_isEdge_6 : decode cX8_isEdge 6 = .ok (.ifCond .eq 19, 3) := by decide +kernel
theorem dX8_isEdge_9 : decode cX8_isEdge 9 = .ok (.iload_n 3, 1) := by decide +kernel
theorem dX8_isEdge_10 : decode cX8_isEdge 10 = .ok (.iconst 1, 1) := by decide +kernel
theorem dX8_isEdge_11 : decode cX8_isEdge 11 = .ok (.aload_n 0, 1) := by decide +kernel
theorem dX8_isEdge_12 : decode cX8_isEdge 12 = .ok (.getfield 7, 3) := by decide +kernel
theorem dX8_isEdge_15 : decode cX8_isEdge 15 = .ok (.iconst 1, 1) := by decide +kernel
theorem dX8_isEdge_16 : decode cX8_isEdge 16 = .ok (.iaload, 1) := by decide +kernel
theorem dX8_isEdge_17 : decode cX8_isEdge 17 = .ok (.iconst 1, 1) := by decide +kernel
theorem dX8_isEdge_18 : decode cX8_isEdge 18 = .ok (.isub, 1) := by decide +kernel
theorem dX8_isEdge_19 : decode cX8_isEdge 19 = .ok (.invokestatic 36, 3) := by decide +kernel
theorem dX8_isEdge_22 : decode cX8_isEdge 22 = .ok (.ifCond .ne 5, 3) := by decide +kernel
theorem dX8_isEdge_25 : decode cX8_isEdge 25 = .ok (.iconst 0, 1) := by decide +kernel
theorem dX8_isEdge_26 : decode cX8_isEdge 26 = .ok (.ireturn, 1) := by decide +kernel
theorem dX8_isEdge_27 : decode cX8_isEdge 27 = .ok (.aload_n 0, 1) := by decide +kernel
theorem dX8_isEdge_28 : decode cX8_isEdge 28 = .ok (.iload_n 1, 1) := by decide +kernel
theorem dX8_isEdge_29 : decode cX8_isEdge 29 = .ok (.iload_n 2, 1) := by decide +kernel
theorem dX8_isEdge_30 : decode cX8_isEdge 30 = .ok (.iload_n 3, 1) := by decide +kernel
theorem dX8_isEdge_31 : decode cX8_isEdge 31 = .ok (.invokevirtual 110, 3) := by decide +kernel
theorem dX8_isEdge_34 : decode cX8_isEdge 34 = .ok (.aload_n 0, 1) := by decide +kernel
theorem dX8_isEdge_35 : decode cX8_isEdge 35 = .ok (.iload_n 1, 1) := by decide +kernel
theorem dX8_isEdge_36 : decode cX8_isEdge 36 = .ok (.iload_n 2, 1) := by decide +kernel
theorem dX8_isEdge_37 : decode cX8_isEdge 37 = .ok (.iload_n 3, 1) := by decide +kernel
theorem dX8_isEdge_38 : decode cX8_isEdge 38 = .ok (.iconst 1, 1) := by decide +kernel
theorem dX8_isEdge_39 : decode cX8_isEdge 39 = .ok (.isub, 1) := by decide +kernel
theorem dX8_isEdge_40 : decode cX8_isEdge 40 = .ok (.invokevirtual 110, 3) := by decide +kernel
theorem dX8_isEdge_43 : decode cX8_isEdge 43 = .ok (.isub, 1) := by decide +kernel
theorem dX8_isEdge_44 : decode cX8_isEdge 44 = .ok (.istore 4, 2) := by decide +kernel
theorem dX8_isEdge_46 : decode cX8_isEdge 46 = .ok (.iload 4, 2) := by decide +kernel
theorem dX8_isEdge_48 : decode cX8_isEdge 48 = .ok (.aload_n 0, 1) := by decide +kernel
theorem dX8_isEdge_49 : decode cX8_isEdge 49 = .ok (.getfield 7, 3) := by decide +kernel
theorem dX8_isEdge_52 : decode cX8_isEdge 52 = .ok (.iconst 3, 1) := by decide +kernel
theorem dX8_isEdge_53 : decode cX8_isEdge 53 = .ok (.iaload, 1) := by decide +kernel
theorem dX8_isEdge_54 : decode cX8_isEdge 54 = .ok (.if_icmp .ge 15, 3) := by decide +kernel
theorem dX8_isEdge_57 : decode cX8_isEdge 57 = .ok (.iload 4, 2) := by decide +kernel
theorem dX8_isEdge_59 : decode cX8_isEdge 59 = .ok (.ineg, 1) := by decide +kernel
theorem dX8_isEdge_60 : decode cX8_isEdge 60 = .ok (.aload_n 0, 1) := by decide +kernel
theorem dX8_isEdge_61 : decode cX8_isEdge 61 = .ok (.getfield 7, 3) := by decide +kernel
theorem dX8_isEdge_64 : decode cX8_isEdge 64 = .ok (.iconst 3, 1) := by decide +kernel
theorem dX8_isEdge_65 : decode cX8_isEdge 65 = .ok (.iaload, 1) := by decide +kernel
theorem dX8_isEdge_66 : decode cX8_isEdge 66 = .ok (.if_icmp .lt 7, 3) := by decide +kernel
theorem dX8_isEdge_69 : decode cX8_isEdge 69 = .ok (.iconst 1, 1) := by decide +kernel
theorem dX8_isEdge_70 : decode cX8_isEdge 70 = .ok (.goto 4, 3) := by decide +kernel
theorem dX8_isEdge_73 : decode cX8_isEdge 73 = .ok (.iconst 0, 1) := by decide +kernel
theorem dX8_isEdge_74 : decode cX8_isEdge 74 = .ok (.ireturn, 1) := by decide +kernel
theorem dX8_edgesIn_0 : decode cX8_edgesIn 0 = .ok (.iconst 0, 1) := by decide +kernel
theorem dX8_edgesIn_1 : decode cX8_edgesIn 1 = .ok (.istore_n 3, 1) := by decide +kernel
theorem dX8_edgesIn_2 : decode cX8_edgesIn 2 = .ok (.iconst 1, 1) := by decide +kernel
theorem dX8_edgesIn_3 : decode cX8_edgesIn 3 = .ok (.istore 4, 2) := by decide +kernel
theorem dX8_edgesIn_5 : decode cX8_edgesIn 5 = .ok (.iload 4, 2) := by decide +kernel
theorem dX8_edgesIn_7 : decode cX8_edgesIn 7 = .ok (.aload_n 0, 1) := by decide +kernel
theorem dX8_edgesIn_8 : decode cX8_edgesIn 8 = .ok (.getfield 7, 3) := by decide +kernel
theorem dX8_edgesIn_11 : decode cX8_edgesIn 11 = .ok (.iconst 1, 1) := by decide +kernel
theorem dX8_edgesIn_12 : decode cX8_edgesIn 12 = .ok (.iaload, 1) := by decide +kernel
theorem dX8_edgesIn_13 : decode cX8_edgesIn 13 = .ok (.if_icmp .ge 31, 3) := by decide +kernel
theorem dX8_edgesIn_16 : decode cX8_edgesIn 16 = .ok (.iload_n 3, 1) := by decide +kernel
theorem dX8_edgesIn_17 : decode cX8_edgesIn 17 = .ok (.aload_n 0, 1) := by decide +kernel
theorem dX8_edgesIn_18 : decode cX8_edgesIn 18 = .ok (.iload_n 1, 1) := by decide +kernel
theorem dX8_edgesIn_19 : decode cX8_edgesIn 19 = .ok (.iload_n 2, 1) := by decide +kernel
theorem dX8_edgesIn_20 : decode cX8_edgesIn 20 = .ok (.iload 4, 2) := by decide +kernel
theorem dX8_edgesIn_22 : decode cX8_edgesIn 22 = .ok (.invokevirtual 114, 3) := by decide +kernel
theorem dX8_edgesIn_25 : decode cX8_edgesIn 25 = .ok (.ifCond .eq 10, 3) := by decide +kernel
theorem dX8_edgesIn_28 : decode cX8_edgesIn 28 = .ok (.iconst 1, 1) := by decide +kernel
theorem dX8_edgesIn_29 : decode cX8_edgesIn 29 = .ok (.iload 4, 2) := by decide +kernel
theorem dX8_edgesIn_31 : decode cX8_edgesIn 31 = .ok (.ishl, 1) := by decide +kernel
theorem dX8_edgesIn_32 : decode cX8_edgesIn 32 = .ok (.goto 4, 3) := by decide +kernel
theorem dX8_edgesIn_35 : decode cX8_edgesIn 35 = .ok (.iconst 0, 1) := by decide +kernel
theorem dX8_edgesIn_36 : decode cX8_edgesIn 36 = .ok (.ior, 1) := by decide +kernel
theorem dX8_edgesIn_37 : decode cX8_edgesIn 37 = .ok (.istore_n 3, 1) := by decide +kernel
theorem dX8_edgesIn_38 : decode cX8_edgesIn 38 = .ok (.iinc 4 1, 3) := by decide +kernel
theorem dX8_edgesIn_41 : decode cX8_edgesIn 41 = .ok (.goto (-36), 3) := by decide +kernel
theorem dX8_edgesIn_44 : decode cX8_edgesIn 44 = .ok (.iload_n 3, 1) := by decide +kernel
theorem dX8_edgesIn_45 : decode cX8_edgesIn 45 = .ok (.ireturn, 1) := by decide +kernel
theorem dX8_frameOf_0 : decode cX8_frameOf 0 = .ok (.aload_n 0, 1) := by decide +kernel
theorem dX8_frameOf_1 : decode cX8_frameOf 1 = .ok (.iload_n 1, 1) := by decide +kernel
theorem dX8_frameOf_2 : decode cX8_frameOf 2 = .ok (.invokevirtual 97, 3) := by decide +kernel
theorem dX8_frameOf_5 : decode cX8_frameOf 5 = .ok (.ifCond .eq 12, 3) := by decide +kernel
theorem dX8_frameOf_8 : decode cX8_frameOf 8 = .ok (.iload_n 2, 1) := by decide +kernel
theorem dX8_frameOf_9 : decode cX8_frameOf 9 = .ok (.iconst 0, 1) := by decide +kernel
theorem dX8_frameOf_10 : decode cX8_frameOf 10 = .ok (.iconst 2, 1) := by decide +kernel
theorem dX8_frameOf_11 : decode cX8_frameOf 11 = .ok (.invokestatic 36, 3) := by decide +kernel
theorem dX8_frameOf_14 : decode cX8_frameOf 14 = .ok (.ifCond .ne 6, 3) := by decide +kernel
theorem dX8_frameOf_17 : decode cX8_frameOf 17 = .ok (.ldc 44, 2) := by decide +kernel
theorem dX8_frameOf_19 : decode cX8_frameOf 19 = .ok (.ireturn, 1) := by decide +kernel
theorem dX8_frameOf_20 : decode cX8_frameOf 20 = .ok (.iload_n 2, 1) := by decide +kernel
theorem dX8_frameOf_21 : decode cX8_frameOf 21 = .ok (.iconst 2, 1) := by decide +kernel
theorem dX8_frameOf_22 : decode cX8_frameOf 22 = .ok (.if_icmp .ge 34, 3) := by decide +kernel
theorem dX8_frameOf_25 : decode cX8_frameOf 25 = .ok (.iload_n 2, 1) := by decide +kernel
theorem dX8_frameOf_26 : decode cX8_frameOf 26 = .ok (.ifCond .ne 12, 3) := by decide +kernel
theorem dX8_frameOf_29 : decode cX8_frameOf 29 = .ok (.aload_n 0, 1) := by decide +kernel
theorem dX8_frameOf_30 : decode cX8_frameOf 30 = .ok (.iload_n 1, 1) := by decide +kernel
theorem dX8_frameOf_31 : decode cX8_frameOf 31 = .ok (.iconst 0, 1) := by decide +kernel
theorem dX8_frameOf_32 : decode cX8_frameOf 32 = .ok (.invokevirtual 100, 3) := by decide +kernel
theorem dX8_frameOf_35 : decode cX8_frameOf 35 = .ok (.goto 20, 3) := by decide +kernel
theorem dX8_frameOf_38 : decode cX8_frameOf 38 = .ok (.aload_n 0, 1) := by decide +kernel
theorem dX8_frameOf_39 : decode cX8_frameOf 39 = .ok (.iload_n 1, 1) := by decide +kernel
theorem dX8_frameOf_40 : decode cX8_frameOf 40 = .ok (.iconst 1, 1) := by decide +kernel
theorem dX8_frameOf_41 : decode cX8_frameOf 41 = .ok (.invokevirtual 100, 3) := by decide +kernel
theorem dX8_frameOf_44 : decode cX8_frameOf 44 = .ok (.iconst 1, 1) := by decide +kernel
theorem dX8_frameOf_45 : decode cX8_frameOf 45 = .ok (.aload_n 0, 1) := by decide +kernel
theorem dX8_frameOf_46 : decode cX8_frameOf 46 = .ok (.getfield 7, 3) := by decide +kernel
theorem dX8_frameOf_49 : decode cX8_frameOf 49 = .ok (.iconst 0, 1) := by decide +kernel
theorem dX8_frameOf_50 : decode cX8_frameOf 50 = .ok (.iaload, 1) := by decide +kernel
theorem dX8_frameOf_51 : decode cX8_frameOf 51 = .ok (.ishl, 1) := by decide +kernel
theorem dX8_frameOf_52 : decode cX8_frameOf 52 = .ok (.iconst 1, 1) := by decide +kernel
theorem dX8_frameOf_53 : decode cX8_frameOf 53 = .ok (.isub, 1) := by decide +kernel
theorem dX8_frameOf_54 : decode cX8_frameOf 54 = .ok (.iand, 1) := by decide +kernel
theorem dX8_frameOf_55 : decode cX8_frameOf 55 = .ok (.ireturn, 1) := by decide +kernel
theorem dX8_frameOf_56 : decode cX8_frameOf 56 = .ok (.iconst 0, 1) := by decide +kernel
theorem dX8_frameOf_57 : decode cX8_frameOf 57 = .ok (.istore_n 3, 1) := by decide +kernel
theorem dX8_frameOf_58 : decode cX8_frameOf 58 = .ok (.iconst 0, 1) := by decide +kernel
theorem dX8_frameOf_59 : decode cX8_frameOf 59 = .ok (.istore 4, 2) := by decide +kernel
theorem dX8_frameOf_61 : decode cX8_frameOf 61 = .ok (.iload 4, 2) := by decide +kernel
theorem dX8_frameOf_63 : decode cX8_frameOf 63 = .ok (.aload_n 0, 1) := by decide +kernel
theorem dX8_frameOf_64 : decode cX8_frameOf 64 = .ok (.getfield 7, 3) := by decide +kernel
theorem dX8_frameOf_67 : decode cX8_frameOf 67 = .ok (.iconst 0, 1) := by decide +kernel
theorem dX8_frameOf_68 : decode cX8_frameOf 68 = .ok (.iaload, 1) := by decide +kernel
theorem dX8_frameOf_69 : decode cX8_frameOf 69 = .ok (.if_icmp .ge 22, 3) := by decide +kernel
theorem dX8_frameOf_72 : decode cX8_frameOf 72 = .ok (.iload_n 3, 1) := by decide +kernel
theorem dX8_frameOf_73 : decode cX8_frameOf 73 = .ok (.aload_n 0, 1) := by decide +kernel
theorem dX8_frameOf_74 : decode cX8_frameOf 74 = .ok (.iload_n 1, 1) := by decide +kernel
theorem dX8_frameOf_75 : decode cX8_frameOf 75 = .ok (.iload 4, 2) := by decide +kernel
theorem dX8_frameOf_77 : decode cX8_frameOf 77 = .ok (.invokevirtual 117, 3) := by decide +kernel
theorem dX8_frameOf_80 : decode cX8_frameOf 80 = .ok (.invokestatic 67, 3) := by decide +kernel
theorem dX8_frameOf_83 : decode cX8_frameOf 83 = .ok (.iadd, 1) := by decide +kernel
theorem dX8_frameOf_84 : decode cX8_frameOf 84 = .ok (.istore_n 3, 1) := by decide +kernel
theorem dX8_frameOf_85 : decode cX8_frameOf 85 = .ok (.iinc 4 1, 3) := by decide +kernel
theorem dX8_frameOf_88 : decode cX8_frameOf 88 = .ok (.goto (-27), 3) := by decide +kernel
theorem dX8_frameOf_91 : decode cX8_frameOf 91 = .ok (.iload_n 3, 1) := by decide +kernel
theorem dX8_frameOf_92 : decode cX8_frameOf 92 = .ok (.ireturn, 1) := by decide +kernel
theorem dX8_pixel_0 : decode cX8_pixel 0 = .ok (.aload_n 0, 1) := by decide +kernel
theorem dX8_pixel_1 : decode cX8_pixel 1 = .ok (.iload_n 1, 1) := by decide +kernel
theorem dX8_pixel_2 : decode cX8_pixel 2 = .ok (.invokevirtual 97, 3) := by decide +kernel
theorem dX8_pixel_5 : decode cX8_pixel 5 = .ok (.ifCond .eq 19, 3) := by decide +kernel
theorem dX8_pixel_8 : decode cX8_pixel 8 = .ok (.aload_n 0, 1) := by decide +kernel
theorem dX8_pixel_9 : decode cX8_pixel 9 = .ok (.iload_n 2, 1) := by decide +kernel
theorem dX8_pixel_10 : decode cX8_pixel 10 = .ok (.invokevirtual 79, 3) := by decide +kernel
theorem dX8_pixel_13 : decode cX8_pixel 13 = .ok (.ifCond .eq 11, 3) := by decide +kernel
theorem dX8_pixel_16 : decode cX8_pixel 16 = .ok (.aload_n 0, 1) := by decide +kernel
theorem dX8_pixel_17 : decode cX8_pixel 17 = .ok (.iload_n 3, 1) := by decide +kernel
theorem dX8_pixel_18 : decode cX8_pixel 18 = .ok (.invokevirtual 82, 3) := by decide +kernel
theorem dX8_pixel_21 : decode cX8_pixel 21 = .ok (.ifCond .ne 6, 3) := by decide +kernel
theorem dX8_pixel_24 : decode cX8_pixel 24 = .ok (.ldc 44, 2) := by decide +kernel
theorem dX8_pixel_26 : decode cX8_pixel 26 = .ok (.ireturn, 1) := by decide +kernel
theorem dX8_pixel_27 : decode cX8_pixel 27 = .ok (.aload_n 0, 1) := by decide +kernel
theorem dX8_pixel_28 : decode cX8_pixel 28 = .ok (.iload_n 1, 1) := by decide +kernel
theorem dX8_pixel_29 : decode cX8_pixel 29 = .ok (.iload_n 2, 1) := by decide +kernel
theorem dX8_pixel_30 : decode cX8_pixel 30 = .ok (.invokevirtual 107, 3) := by decide +kernel
theorem dX8_pixel_33 : decode cX8_pixel 33 = .ok (.ifCond .eq 13, 3) := by decide +kernel
theorem dX8_pixel_36 : decode cX8_pixel 36 = .ok (.aload_n 0, 1) := by decide +kernel
theorem dX8_pixel_37 : decode cX8_pixel 37 = .ok (.iload_n 1, 1) := by decide +kernel
theorem dX8_pixel_38 : decode cX8_pixel 38 = .ok (.iload_n 2, 1) := by decide +kernel
theorem dX8_pixel_39 : decode cX8_pixel 39 = .ok (.iload_n 3, 1) := by decide +kernel
theorem dX8_pixel_40 : decode cX8_pixel 40 = .ok (.invokevirtual 110, 3) := by decide +kernel
theorem dX8_pixel_43 : decode cX8_pixel 43 = .ok (.goto 5, 3) := by decide +kernel
theorem dX8_pixel_46 : decode cX8_pixel 46 = .ok (.ldc 120, 2) := by decide +kernel
theorem dX8_pixel_48 : decode cX8_pixel 48 = .ok (.ireturn, 1) := by decide +kernel
theorem dX8_edges_0 : decode cX8_edges 0 = .ok (.aload_n 0, 1) := by decide +kernel
theorem dX8_edges_1 : decode cX8_edges 1 = .ok (.iload_n 1, 1) := by decide +kernel
theorem dX8_edges_2 : decode cX8_edges 2 = .ok (.invokevirtual 97, 3) := by decide +kernel
theorem dX8_edges_5 : decode cX8_edges 5 = .ok (.ifCond .eq 11, 3) := by decide +kernel
theorem dX8_edges_8 : decode cX8_edges 8 = .ok (.aload_n 0, 1) := by decide +kernel
theorem dX8_edges_9 : decode cX8_edges 9 = .ok (.iload_n 2, 1) := by decide +kernel
theorem dX8_edges_10 : decode cX8_edges 10 = .ok (.invokevirtual 79, 3) := by decide +kernel
theorem dX8_edges_13 : decode cX8_edges 13 = .ok (.ifCond .ne 6, 3) := by decide +kernel
theorem dX8_edges_16 : decode cX8_edges 16 = .ok (.ldc 44, 2) := by decide +kernel
theorem dX8_edges_18 : decode cX8_edges 18 = .ok (.ireturn, 1) := by decide +kernel
theorem dX8_edges_19 : decode cX8_edges 19 = .ok (.aload_n 0, 1) := by decide +kernel
theorem dX8_edges_20 : decode cX8_edges 20 = .ok (.iload_n 1, 1) := by decide +kernel
theorem dX8_edges_21 : decode cX8_edges 21 = .ok (.iload_n 2, 1) := by decide +kernel
theorem dX8_edges_22 : decode cX8_edges 22 = .ok (.invokevirtual 107, 3) := by decide +kernel
theorem dX8_edges_25 : decode cX8_edges 25 = .ok (.ifCond .eq 12, 3) := by decide +kernel
theorem dX8_edges_28 : decode cX8_edges 28 = .ok (.aload_n 0, 1) := by decide +kernel
theorem dX8_edges_29 : decode cX8_edges 29 = .ok (.iload_n 1, 1) := by decide +kernel
theorem dX8_edges_30 : decode cX8_edges 30 = .ok (.iload_n 2, 1) := by decide +kernel
theorem dX8_edges_31 : decode cX8_edges 31 = .ok (.invokevirtual 117, 3) := by decide +kernel
theorem dX8_edges_34 : decode cX8_edges 34 = .ok (.goto 5, 3) := by decide +kernel
theorem dX8_edges_37 : decode cX8_edges 37 = .ok (.ldc 120, 2) := by decide +kernel
theorem dX8_edges_39 : decode cX8_edges 39 = .ok (.ireturn, 1) := by decide +kernel
theorem dX8_pass_0 : decode cX8_pass 0 = .ok (.iload_n 1, 1) := by decide +kernel
theorem dX8_pass_1 : decode cX8_pass 1 = .ok (.iconst 1, 1) := by decide +kernel
theorem dX8_pass_2 : decode cX8_pass 2 = .ok (.sipush 200, 3) := by decide +kernel
theorem dX8_pass_5 : decode cX8_pass 5 = .ok (.invokestatic 36, 3) := by decide +kernel
theorem dX8_pass_8 : decode cX8_pass 8 = .ok (.ifCond .ne 6, 3) := by decide +kernel
theorem dX8_pass_11 : decode cX8_pass 11 = .ok (.ldc 44, 2) := by decide +kernel
theorem dX8_pass_13 : decode cX8_pass 13 = .ok (.ireturn, 1) := by decide +kernel
theorem dX8_pass_14 : decode cX8_pass 14 = .ok (.aload_n 0, 1) := by decide +kernel
theorem dX8_pass_15 : decode cX8_pass 15 = .ok (.getfield 7, 3) := by decide +kernel
theorem dX8_pass_18 : decode cX8_pass 18 = .ok (.bipush 33, 2) := by decide +kernel
theorem dX8_pass_20 : decode cX8_pass 20 = .ok (.iaload, 1) := by decide +kernel
theorem dX8_pass_21 : decode cX8_pass 21 = .ok (.iload_n 1, 1) := by decide +kernel
theorem dX8_pass_22 : decode cX8_pass 22 = .ok (.iadd, 1) := by decide +kernel
theorem dX8_pass_23 : decode cX8_pass 23 = .ok (.sipush 20000, 3) := by decide +kernel
theorem dX8_pass_26 : decode cX8_pass 26 = .ok (.if_icmp .le 6, 3) := by decide +kernel
theorem dX8_pass_29 : decode cX8_pass 29 = .ok (.ldc 54, 2) := by decide +kernel
theorem dX8_pass_31 : decode cX8_pass 31 = .ok (.ireturn, 1) := by decide +kernel
theorem dX8_pass_32 : decode cX8_pass 32 = .ok (.aload_n 0, 1) := by decide +kernel
theorem dX8_pass_33 : decode cX8_pass 33 = .ok (.invokevirtual 46, 3) := by decide +kernel
theorem dX8_pass_36 : decode cX8_pass 36 = .ok (.aload_n 0, 1) := by decide +kernel
theorem dX8_pass_37 : decode cX8_pass 37 = .ok (.getfield 7, 3) := by decide +kernel
theorem dX8_pass_40 : decode cX8_pass 40 = .ok (.bipush 33, 2) := by decide +kernel
theorem dX8_pass_42 : decode cX8_pass 42 = .ok (.dup2, 1) := by decide +kernel
theorem dX8_pass_43 : decode cX8_pass 43 = .ok (.iaload, 1) := by decide +kernel
theorem dX8_pass_44 : decode cX8_pass 44 = .ok (.iload_n 1, 1) := by decide +kernel
theorem dX8_pass_45 : decode cX8_pass 45 = .ok (.iadd, 1) := by decide +kernel
theorem dX8_pass_46 : decode cX8_pass 46 = .ok (.iastore, 1) := by decide +kernel
theorem dX8_pass_47 : decode cX8_pass 47 = .ok (.aload_n 0, 1) := by decide +kernel
theorem dX8_pass_48 : decode cX8_pass 48 = .ok (.getfield 7, 3) := by decide +kernel
theorem dX8_pass_51 : decode cX8_pass 51 = .ok (.bipush 33, 2) := by decide +kernel
theorem dX8_pass_53 : decode cX8_pass 53 = .ok (.iaload, 1) := by decide +kernel
theorem dX8_pass_54 : decode cX8_pass 54 = .ok (.ireturn, 1) := by decide +kernel
theorem dX8_size_0 : decode cX8_size 0 = .ok (.iload_n 0, 1) := by decide +kernel
theorem dX8_size_1 : decode cX8_size 1 = .ok (.ifCond .ge 8, 3) := by decide +kernel
theorem dX8_size_4 : decode cX8_size 4 = .ok (.iload_n 0, 1) := by decide +kernel
theorem dX8_size_5 : decode cX8_size 5 = .ok (.ineg, 1) := by decide +kernel
theorem dX8_size_6 : decode cX8_size 6 = .ok (.goto 4, 3) := by decide +kernel
theorem dX8_size_9 : decode cX8_size 9 = .ok (.iload_n 0, 1) := by decide +kernel
theorem dX8_size_10 : decode cX8_size 10 = .ok (.ireturn, 1) := by decide +kernel
theorem dX8_agreeing_0 : decode cX8_agreeing 0 = .ok (.iconst 0, 1) := by decide +kernel
theorem dX8_agreeing_1 : decode cX8_agreeing 1 = .ok (.istore_n 3, 1) := by decide +kernel
theorem dX8_agreeing_2 : decode cX8_agreeing 2 = .ok (.iconst 1, 1) := by decide +kernel
theorem dX8_agreeing_3 : decode cX8_agreeing 3 = .ok (.istore 4, 2) := by decide +kernel
theorem dX8_agreeing_5 : decode cX8_agreeing 5 = .ok (.iload 4, 2) := by decide +kernel
theorem dX8_agreeing_7 : decode cX8_agreeing 7 = .ok (.bipush 16, 2) := by decide +kernel
theorem dX8_agreeing_9 : decode cX8_agreeing 9 = .ok (.if_icmp .ge 50, 3) := by decide +kernel
theorem dX8_agreeing_12 : decode cX8_agreeing 12 = .ok (.iload_n 3, 1) := by decide +kernel
theorem dX8_agreeing_13 : decode cX8_agreeing 13 = .ok (.iload_n 0, 1) := by decide +kernel
theorem dX8_agreeing_14 : decode cX8_agreeing 14 = .ok (.iload 4, 2) := by decide +kernel
theorem dX8_agreeing_16 : decode cX8_agreeing 16 = .ok (.invokestatic 104, 3) := by decide +kernel
theorem dX8_agreeing_19 : decode cX8_agreeing 19 = .ok (.ifCond .eq 31, 3) := by decide +kernel
theorem dX8_agreeing_22 : decode cX8_agreeing 22 = .ok (.iload 4, 2) := by decide +kernel
theorem dX8_agreeing_24 : decode cX8_agreeing 24 = .ok (.iload_n 2, 1) := by decide +kernel
theorem dX8_agreeing_25 : decode cX8_agreeing 25 = .ok (.iadd, 1) := by decide +kernel
theorem dX8_agreeing_26 : decode cX8_agreeing 26 = .ok (.iconst 1, 1) := by decide +kernel
theorem dX8_agreeing_27 : decode cX8_agreeing 27 = .ok (.bipush 15, 2) := by decide +kernel
theorem dX8_agreeing_29 : decode cX8_agreeing 29 = .ok (.invokestatic 36, 3) := by decide +kernel
theorem dX8_agreeing_32 : decode cX8_agreeing 32 = .ok (.ifCond .eq 18, 3) := by decide +kernel
theorem dX8_agreeing_35 : decode cX8_agreeing 35 = .ok (.iload_n 1, 1) := by decide +kernel
theorem dX8_agreeing_36 : decode cX8_agreeing 36 = .ok (.iload 4, 2) := by decide +kernel
theorem dX8_agreeing_38 : decode cX8_agreeing 38 = .ok (.iload_n 2, 1) := by decide +kernel
theorem dX8_agreeing_39 : decode cX8_agreeing 39 = .ok (.iadd, 1) := by decide +kernel
theorem dX8_agreeing_40 : decode cX8_agreeing 40 = .ok (.invokestatic 104, 3) := by decide +kernel
theorem dX8_agreeing_43 : decode cX8_agreeing 43 = .ok (.ifCond .eq 7, 3) := by decide +kernel
theorem dX8_agreeing_46 : decode cX8_agreeing 46 = .ok (.iconst 1, 1) := by decide +kernel
theorem dX8_agreeing_47 : decode cX8_agreeing 47 = .ok (.goto 4, 3) := by decide +kernel
theorem dX8_agreeing_50 : decode cX8_agreeing 50 = .ok (.iconst 0, 1) := by decide +kernel
theorem dX8_agreeing_51 : decode cX8_agreeing 51 = .ok (.iadd, 1) := by decide +kernel
theorem dX8_agreeing_52 : decode cX8_agreeing 52 = .ok (.istore_n 3, 1) := by decide +kernel
theorem dX8_agreeing_53 : decode cX8_agreeing 53 = .ok (.iinc 4 1, 3) := by decide +kernel
theorem dX8_agreeing_56 : decode cX8_agreeing 56 = .ok (.goto (-51), 3) := by decide +kernel
theorem dX8_agreeing_59 : decode cX8_agreeing 59 = .ok (.iload_n 3, 1) := by decide +kernel
theorem dX8_agreeing_60 : decode cX8_agreeing 60 = .ok (.ireturn, 1) := by decide +kernel
theorem dX8_voteBy_0 : decode cX8_voteBy 0 = .ok (.ldc 49, 2) := by decide +kernel
theorem dX8_voteBy_2 : decode cX8_voteBy 2 = .ok (.istore_n 2, 1) := by decide +kernel
theorem dX8_voteBy_3 : decode cX8_voteBy 3 = .ok (.iconst 0, 1) := by decide +kernel
theorem dX8_voteBy_4 : decode cX8_voteBy 4 = .ok (.istore_n 3, 1) := by decide +kernel
theorem dX8_voteBy_5 : decode cX8_voteBy 5 = .ok (.bipush (-8), 2) := by decide +kernel
theorem dX8_voteBy_7 : decode cX8_voteBy 7 = .ok (.istore 4, 2) := by decide +kernel
theorem dX8_voteBy_9 : decode cX8_voteBy 9 = .ok (.iload 4, 2) := by decide +kernel
theorem dX8_voteBy_11 : decode cX8_voteBy 11 = .ok (.bipush 9, 2) := by decide +kernel
theorem dX8_voteBy_13 : decode cX8_voteBy 13 = .ok (.if_icmp .ge 53, 3) := by decide +kernel
theorem dX8_voteBy_16 : decode cX8_voteBy 16 = .ok (.iload_n 0, 1) := by decide +kernel
theorem dX8_voteBy_17 : decode cX8_voteBy 17 = .ok (.iload_n 1, 1) := by decide +kernel
theorem dX8_voteBy_18 : decode cX8_voteBy 18 = .ok (.iload 4, 2) := by decide +kernel
theorem dX8_voteBy_20 : decode cX8_voteBy 20 = .ok (.invokestatic 121, 3) := by decide +kernel
theorem dX8_voteBy_23 : decode cX8_voteBy 23 = .ok (.istore 5, 2) := by decide +kernel
theorem dX8_voteBy_25 : decode cX8_voteBy 25 = .ok (.iload 5, 2) := by decide +kernel
theorem dX8_voteBy_27 : decode cX8_voteBy 27 = .ok (.iload_n 3, 1) := by decide +kernel
theorem dX8_voteBy_28 : decode cX8_voteBy 28 = .ok (.if_icmp .gt 26, 3) := by decide +kernel
theorem dX8_voteBy_31 : decode cX8_voteBy 31 = .ok (.iload 5, 2) := by decide +kernel
theorem dX8_voteBy_33 : decode cX8_voteBy 33 = .ok (.iload_n 3, 1) := by decide +kernel
theorem dX8_voteBy_34 : decode cX8_voteBy 34 = .ok (.if_icmp .ne 26, 3) := by decide +kernel
theorem dX8_voteBy_37 : decode cX8_voteBy 37 = .ok (.iload 5, 2) := by decide +kernel
theorem dX8_voteBy_39 : decode cX8_voteBy 39 = .ok (.ifCond .le 21, 3) := by decide +kernel
theorem dX8_voteBy_42 : decode cX8_voteBy 42 = .ok (.iload 4, 2) := by decide +kernel
theorem dX8_voteBy_44 : decode cX8_voteBy 44 = .ok (.invokestatic 124, 3) := by decide +kernel
theorem dX8_voteBy_47 : decode cX8_voteBy 47 = .ok (.iload_n 2, 1) := by decide +kernel
theorem dX8_voteBy_48 : decode cX8_voteBy 48 = .ok (.invokestatic 124, 3) := by decide +kernel
theorem dX8_voteBy_51 : decode cX8_voteBy 51 = .ok (.if_icmp .ge 9, 3) := by decide +kernel
theorem dX8_voteBy_54 : decode cX8_voteBy 54 = .ok (.iload 4, 2) := by decide +kernel
theorem dX8_voteBy_56 : decode cX8_voteBy 56 = .ok (.istore_n 2, 1) := by decide +kernel
theorem dX8_voteBy_57 : decode cX8_voteBy 57 = .ok (.iload 5, 2) := by decide +kernel
theorem dX8_voteBy_59 : decode cX8_voteBy 59 = .ok (.istore_n 3, 1) := by decide +kernel
theorem dX8_voteBy_60 : decode cX8_voteBy 60 = .ok (.iinc 4 1, 3) := by decide +kernel
theorem dX8_voteBy_63 : decode cX8_voteBy 63 = .ok (.goto (-54), 3) := by decide +kernel
theorem dX8_voteBy_66 : decode cX8_voteBy 66 = .ok (.iload_n 2, 1) := by decide +kernel
theorem dX8_voteBy_67 : decode cX8_voteBy 67 = .ok (.ireturn, 1) := by decide +kernel
theorem dX8_voteOf_0 : decode cX8_voteOf 0 = .ok (.aload_n 0, 1) := by decide +kernel
theorem dX8_voteOf_1 : decode cX8_voteOf 1 = .ok (.iload_n 1, 1) := by decide +kernel
theorem dX8_voteOf_2 : decode cX8_voteOf 2 = .ok (.iload_n 3, 1) := by decide +kernel
theorem dX8_voteOf_3 : decode cX8_voteOf 3 = .ok (.invokevirtual 117, 3) := by decide +kernel
theorem dX8_voteOf_6 : decode cX8_voteOf 6 = .ok (.aload_n 0, 1) := by decide +kernel
theorem dX8_voteOf_7 : decode cX8_voteOf 7 = .ok (.iload_n 2, 1) := by decide +kernel
theorem dX8_voteOf_8 : decode cX8_voteOf 8 = .ok (.iload_n 3, 1) := by decide +kernel
theorem dX8_voteOf_9 : decode cX8_voteOf 9 = .ok (.invokevirtual 117, 3) := by decide +kernel
theorem dX8_voteOf_12 : decode cX8_voteOf 12 = .ok (.invokestatic 127, 3) := by decide +kernel
theorem dX8_voteOf_15 : decode cX8_voteOf 15 = .ok (.ireturn, 1) := by decide +kernel
theorem dX8_areFrames_0 : decode cX8_areFrames 0 = .ok (.aload_n 0, 1) := by decide +kernel
theorem dX8_areFrames_1 : decode cX8_areFrames 1 = .ok (.iload_n 1, 1) := by decide +kernel
theorem dX8_areFrames_2 : decode cX8_areFrames 2 = .ok (.invokevirtual 97, 3) := by decide +kernel
theorem dX8_areFrames_5 : decode cX8_areFrames 5 = .ok (.ifCond .eq 20, 3) := by decide +kernel
theorem dX8_areFrames_8 : decode cX8_areFrames 8 = .ok (.aload_n 0, 1) := by decide +kernel
theorem dX8_areFrames_9 : decode cX8_areFrames 9 = .ok (.iload_n 2, 1) := by decide +kernel
theorem dX8_areFrames_10 : decode cX8_areFrames 10 = .ok (.invokevirtual 97, 3) := by decide +kernel
theorem dX8_areFrames_13 : decode cX8_areFrames 13 = .ok (.ifCond .eq 12, 3) := by decide +kernel
theorem dX8_areFrames_16 : decode cX8_areFrames 16 = .ok (.iload_n 1, 1) := by decide +kernel
theorem dX8_areFrames_17 : decode cX8_areFrames 17 = .ok (.iload_n 2, 1) := by decide +kernel
theorem dX8_areFrames_18 : decode cX8_areFrames 18 = .ok (.if_icmp .eq 7, 3) := by decide +kernel
theorem dX8_areFrames_21 : decode cX8_areFrames 21 = .ok (.iconst 1, 1) := by decide +kernel
theorem dX8_areFrames_22 : decode cX8_areFrames 22 = .ok (.goto 4, 3) := by decide +kernel
theorem dX8_areFrames_25 : decode cX8_areFrames 25 = .ok (.iconst 0, 1) := by decide +kernel
theorem dX8_areFrames_26 : decode cX8_areFrames 26 = .ok (.ireturn, 1) := by decide +kernel
theorem dX8_vote_0 : decode cX8_vote 0 = .ok (.aload_n 0, 1) := by decide +kernel
theorem dX8_vote_1 : decode cX8_vote 1 = .ok (.iload_n 1, 1) := by decide +kernel
theorem dX8_vote_2 : decode cX8_vote 2 = .ok (.iload_n 2, 1) := by decide +kernel
theorem dX8_vote_3 : decode cX8_vote 3 = .ok (.invokevirtual 130, 3) := by decide +kernel
theorem dX8_vote_6 : decode cX8_vote 6 = .ok (.ifCond .eq 11, 3) := by decide +kernel
theorem dX8_vote_9 : decode cX8_vote 9 = .ok (.aload_n 0, 1) := by decide +kernel
theorem dX8_vote_10 : decode cX8_vote 10 = .ok (.iload_n 3, 1) := by decide +kernel
theorem dX8_vote_11 : decode cX8_vote 11 = .ok (.invokevirtual 79, 3) := by decide +kernel
theorem dX8_vote_14 : decode cX8_vote 14 = .ok (.ifCond .ne 6, 3) := by decide +kernel
theorem dX8_vote_17 : decode cX8_vote 17 = .ok (.ldc 44, 2) := by decide +kernel
theorem dX8_vote_19 : decode cX8_vote 19 = .ok (.ireturn, 1) := by decide +kernel
theorem dX8_vote_20 : decode cX8_vote 20 = .ok (.aload_n 0, 1) := by decide +kernel
theorem dX8_vote_21 : decode cX8_vote 21 = .ok (.iload_n 1, 1) := by decide +kernel
theorem dX8_vote_22 : decode cX8_vote 22 = .ok (.iload_n 2, 1) := by decide +kernel
theorem dX8_vote_23 : decode cX8_vote 23 = .ok (.iload_n 3, 1) := by decide +kernel
theorem dX8_vote_24 : decode cX8_vote 24 = .ok (.invokevirtual 133, 3) := by decide +kernel
theorem dX8_vote_27 : decode cX8_vote 27 = .ok (.istore 4, 2) := by decide +kernel
theorem dX8_vote_29 : decode cX8_vote 29 = .ok (.iload 4, 2) := by decide +kernel
theorem dX8_vote_31 : decode cX8_vote 31 = .ok (.ldc 49, 2) := by decide +kernel
theorem dX8_vote_33 : decode cX8_vote 33 = .ok (.if_icmp .ne 8, 3) := by decide +kernel
theorem dX8_vote_36 : decode cX8_vote 36 = .ok (.ldc 120, 2) := by decide +kernel
theorem dX8_vote_38 : decode cX8_vote 38 = .ok (.goto 5, 3) := by decide +kernel
theorem dX8_vote_41 : decode cX8_vote 41 = .ok (.iload 4, 2) := by decide +kernel
theorem dX8_vote_43 : decode cX8_vote 43 = .ok (.ireturn, 1) := by decide +kernel
theorem dX8_noVotes_0 : decode cX8_noVotes 0 = .ok (.iconst 0, 1) := by decide +kernel
theorem dX8_noVotes_1 : decode cX8_noVotes 1 = .ok (.istore_n 1, 1) := by decide +kernel
theorem dX8_noVotes_2 : decode cX8_noVotes 2 = .ok (.iload_n 1, 1) := by decide +kernel
theorem dX8_noVotes_3 : decode cX8_noVotes 3 = .ok (.bipush 17, 2) := by decide +kernel
theorem dX8_noVotes_5 : decode cX8_noVotes 5 = .ok (.if_icmp .ge 16, 3) := by decide +kernel
theorem dX8_noVotes_8 : decode cX8_noVotes 8 = .ok (.aload_n 0, 1) := by decide +kernel
theorem dX8_noVotes_9 : decode cX8_noVotes 9 = .ok (.getfield 22, 3) := by decide +kernel
theorem dX8_noVotes_12 : decode cX8_noVotes 12 = .ok (.iload_n 1, 1) := by decide +kernel
theorem dX8_noVotes_13 : decode cX8_noVotes 13 = .ok (.iconst 0, 1) := by decide +kernel
theorem dX8_noVotes_14 : decode cX8_noVotes 14 = .ok (.iastore, 1) := by decide +kernel
theorem dX8_noVotes_15 : decode cX8_noVotes 15 = .ok (.iinc 1 1, 3) := by decide +kernel
theorem dX8_noVotes_18 : decode cX8_noVotes 18 = .ok (.goto (-16), 3) := by decide +kernel
theorem dX8_noVotes_21 : decode cX8_noVotes 21 = .ok (.return_, 1) := by decide +kernel
theorem dX8_counts_0 : decode cX8_counts 0 = .ok (.iload_n 1, 1) := by decide +kernel
theorem dX8_counts_1 : decode cX8_counts 1 = .ok (.ldc 49, 2) := by decide +kernel
theorem dX8_counts_3 : decode cX8_counts 3 = .ok (.if_icmp .eq 16, 3) := by decide +kernel
theorem dX8_counts_6 : decode cX8_counts 6 = .ok (.aload_n 0, 1) := by decide +kernel
theorem dX8_counts_7 : decode cX8_counts 7 = .ok (.getfield 22, 3) := by decide +kernel
theorem dX8_counts_10 : decode cX8_counts 10 = .ok (.iload_n 1, 1) := by decide +kernel
theorem dX8_counts_11 : decode cX8_counts 11 = .ok (.bipush 8, 2) := by decide +kernel
theorem dX8_counts_13 : decode cX8_counts 13 = .ok (.iadd, 1) := by decide +kernel
theorem dX8_counts_14 : decode cX8_counts 14 = .ok (.dup2, 1) := by decide +kernel
theorem dX8_counts_15 : decode cX8_counts 15 = .ok (.iaload, 1) := by decide +kernel
theorem dX8_counts_16 : decode cX8_counts 16 = .ok (.iload_n 2, 1) := by decide +kernel
theorem dX8_counts_17 : decode cX8_counts 17 = .ok (.iadd, 1) := by decide +kernel
theorem dX8_counts_18 : decode cX8_counts 18 = .ok (.iastore, 1) := by decide +kernel
theorem dX8_counts_19 : decode cX8_counts 19 = .ok (.return_, 1) := by decide +kernel
theorem dX8_mostVoted_0 : decode cX8_mostVoted 0 = .ok (.iconst 0, 1) := by decide +kernel
theorem dX8_mostVoted_1 : decode cX8_mostVoted 1 = .ok (.istore_n 1, 1) := by decide +kernel
theorem dX8_mostVoted_2 : decode cX8_mostVoted 2 = .ok (.iconst 0, 1) := by decide +kernel
theorem dX8_mostVoted_3 : decode cX8_mostVoted 3 = .ok (.istore_n 2, 1) := by decide +kernel
theorem dX8_mostVoted_4 : decode cX8_mostVoted 4 = .ok (.iconst 1, 1) := by decide +kernel
theorem dX8_mostVoted_5 : decode cX8_mostVoted 5 = .ok (.istore_n 3, 1) := by decide +kernel
theorem dX8_mostVoted_6 : decode cX8_mostVoted 6 = .ok (.iload_n 3, 1) := by decide +kernel
theorem dX8_mostVoted_7 : decode cX8_mostVoted 7 = .ok (.bipush 17, 2) := by decide +kernel
theorem dX8_mostVoted_9 : decode cX8_mostVoted 9 = .ok (.if_icmp .ge 49, 3) := by decide +kernel
theorem dX8_mostVoted_12 : decode cX8_mostVoted 12 = .ok (.aload_n 0, 1) := by decide +kernel
theorem dX8_mostVoted_13 : decode cX8_mostVoted 13 = .ok (.getfield 22, 3) := by decide +kernel
theorem dX8_mostVoted_16 : decode cX8_mostVoted 16 = .ok (.iload_n 3, 1) := by decide +kernel
theorem dX8_mostVoted_17 : decode cX8_mostVoted 17 = .ok (.iaload, 1) := by decide +kernel
theorem dX8_mostVoted_18 : decode cX8_mostVoted 18 = .ok (.aload_n 0, 1) := by decide +kernel
theorem dX8_mostVoted_19 : decode cX8_mostVoted 19 = .ok (.getfield 22, 3) := by decide +kernel
theorem dX8_mostVoted_22 : decode cX8_mostVoted 22 = .ok (.iload_n 1, 1) := by decide +kernel
theorem dX8_mostVoted_23 : decode cX8_mostVoted 23 = .ok (.iaload, 1) := by decide +kernel
theorem dX8_mostVoted_24 : decode cX8_mostVoted 24 = .ok (.if_icmp .le 10, 3) := by decide +kernel
theorem dX8_mostVoted_27 : decode cX8_mostVoted 27 = .ok (.iload_n 3, 1) := by decide +kernel
theorem dX8_mostVoted_28 : decode cX8_mostVoted 28 = .ok (.istore_n 1, 1) := by decide +kernel
theorem dX8_mostVoted_29 : decode cX8_mostVoted 29 = .ok (.iconst 0, 1) := by decide +kernel
theorem dX8_mostVoted_30 : decode cX8_mostVoted 30 = .ok (.istore_n 2, 1) := by decide +kernel
theorem dX8_mostVoted_31 : decode cX8_mostVoted 31 = .ok (.goto 21, 3) := by decide +kernel
theorem dX8_mostVoted_34 : decode cX8_mostVoted 34 = .ok (.aload_n 0, 1) := by decide +kernel
theorem dX8_mostVoted_35 : decode cX8_mostVoted 35 = .ok (.getfield 22, 3) := by decide +kernel
theorem dX8_mostVoted_38 : decode cX8_mostVoted 38 = .ok (.iload_n 3, 1) := by decide +kernel
theorem dX8_mostVoted_39 : decode cX8_mostVoted 39 = .ok (.iaload, 1) := by decide +kernel
theorem dX8_mostVoted_40 : decode cX8_mostVoted 40 = .ok (.aload_n 0, 1) := by decide +kernel
theorem dX8_mostVoted_41 : decode cX8_mostVoted 41 = .ok (.getfield 22, 3) := by decide +kernel
theorem dX8_mostVoted_44 : decode cX8_mostVoted 44 = .ok (.iload_n 1, 1) := by decide +kernel
theorem dX8_mostVoted_45 : decode cX8_mostVoted 45 = .ok (.iaload, 1) := by decide +kernel
theorem dX8_mostVoted_46 : decode cX8_mostVoted 46 = .ok (.if_icmp .ne 6, 3) := by decide +kernel
theorem dX8_mostVoted_49 : decode cX8_mostVoted 49 = .ok (.iinc 2 1, 3) := by decide +kernel
theorem dX8_mostVoted_52 : decode cX8_mostVoted 52 = .ok (.iinc 3 1, 3) := by decide +kernel
theorem dX8_mostVoted_55 : decode cX8_mostVoted 55 = .ok (.goto (-49), 3) := by decide +kernel
theorem dX8_mostVoted_58 : decode cX8_mostVoted 58 = .ok (.aload_n 0, 1) := by decide +kernel
theorem dX8_mostVoted_59 : decode cX8_mostVoted 59 = .ok (.getfield 22, 3) := by decide +kernel
theorem dX8_mostVoted_62 : decode cX8_mostVoted 62 = .ok (.iload_n 1, 1) := by decide +kernel
theorem dX8_mostVoted_63 : decode cX8_mostVoted 63 = .ok (.iaload, 1) := by decide +kernel
theorem dX8_mostVoted_64 : decode cX8_mostVoted 64 = .ok (.ifCond .eq 7, 3) := by decide +kernel
theorem dX8_mostVoted_67 : decode cX8_mostVoted 67 = .ok (.iload_n 2, 1) := by decide +kernel
theorem dX8_mostVoted_68 : decode cX8_mostVoted 68 = .ok (.ifCond .le 8, 3) := by decide +kernel
theorem dX8_mostVoted_71 : decode cX8_mostVoted 71 = .ok (.ldc 49, 2) := by decide +kernel
theorem dX8_mostVoted_73 : decode cX8_mostVoted 73 = .ok (.goto 7, 3) := by decide +kernel
theorem dX8_mostVoted_76 : decode cX8_mostVoted 76 = .ok (.iload_n 1, 1) := by decide +kernel
theorem dX8_mostVoted_77 : decode cX8_mostVoted 77 = .ok (.bipush 8, 2) := by decide +kernel
theorem dX8_mostVoted_79 : decode cX8_mostVoted 79 = .ok (.isub, 1) := by decide +kernel
theorem dX8_mostVoted_80 : decode cX8_mostVoted 80 = .ok (.ireturn, 1) := by decide +kernel
theorem dX8_weightOf_0 : decode cX8_weightOf 0 = .ok (.aload_n 0, 1) := by decide +kernel
theorem dX8_weightOf_1 : decode cX8_weightOf 1 = .ok (.getfield 7, 3) := by decide +kernel
theorem dX8_weightOf_4 : decode cX8_weightOf 4 = .ok (.sipush 847, 3) := by decide +kernel
theorem dX8_weightOf_7 : decode cX8_weightOf 7 = .ok (.iload_n 1, 1) := by decide +kernel
theorem dX8_weightOf_8 : decode cX8_weightOf 8 = .ok (.iadd, 1) := by decide +kernel
theorem dX8_weightOf_9 : decode cX8_weightOf 9 = .ok (.iaload, 1) := by decide +kernel
theorem dX8_weightOf_10 : decode cX8_weightOf 10 = .ok (.aload_n 0, 1) := by decide +kernel
theorem dX8_weightOf_11 : decode cX8_weightOf 11 = .ok (.getfield 7, 3) := by decide +kernel
theorem dX8_weightOf_14 : decode cX8_weightOf 14 = .ok (.sipush 857, 3) := by decide +kernel
theorem dX8_weightOf_17 : decode cX8_weightOf 17 = .ok (.iload_n 1, 1) := by decide +kernel
theorem dX8_weightOf_18 : decode cX8_weightOf 18 = .ok (.iadd, 1) := by decide +kernel
theorem dX8_weightOf_19 : decode cX8_weightOf 19 = .ok (.iaload, 1) := by decide +kernel
theorem dX8_weightOf_20 : decode cX8_weightOf 20 = .ok (.isub, 1) := by decide +kernel
theorem dX8_weightOf_21 : decode cX8_weightOf 21 = .ok (.istore_n 2, 1) := by decide +kernel
theorem dX8_weightOf_22 : decode cX8_weightOf 22 = .ok (.iload_n 2, 1) := by decide +kernel
theorem dX8_weightOf_23 : decode cX8_weightOf 23 = .ok (.ifCond .le 9, 3) := by decide +kernel
theorem dX8_weightOf_26 : decode cX8_weightOf 26 = .ok (.iconst 1, 1) := by decide +kernel
theorem dX8_weightOf_27 : decode cX8_weightOf 27 = .ok (.iload_n 2, 1) := by decide +kernel
theorem dX8_weightOf_28 : decode cX8_weightOf 28 = .ok (.iadd, 1) := by decide +kernel
theorem dX8_weightOf_29 : decode cX8_weightOf 29 = .ok (.goto 4, 3) := by decide +kernel
theorem dX8_weightOf_32 : decode cX8_weightOf 32 = .ok (.iconst 1, 1) := by decide +kernel
theorem dX8_weightOf_33 : decode cX8_weightOf 33 = .ok (.ireturn, 1) := by decide +kernel
theorem dX8_toldBy_0 : decode cX8_toldBy 0 = .ok (.aload_n 0, 1) := by decide +kernel
theorem dX8_toldBy_1 : decode cX8_toldBy 1 = .ok (.invokevirtual 136, 3) := by decide +kernel
theorem dX8_toldBy_4 : decode cX8_toldBy 4 = .ok (.iconst 0, 1) := by decide +kernel
theorem dX8_toldBy_5 : decode cX8_toldBy 5 = .ok (.istore 4, 2) := by decide +kernel
theorem dX8_toldBy_7 : decode cX8_toldBy 7 = .ok (.iload 4, 2) := by decide +kernel
theorem dX8_toldBy_9 : decode cX8_toldBy 9 = .ok (.aload_n 0, 1) := by decide +kernel
theorem dX8_toldBy_10 : decode cX8_toldBy 10 = .ok (.getfield 7, 3) := by decide +kernel
theorem dX8_toldBy_13 : decode cX8_toldBy 13 = .ok (.iconst 0, 1) := by decide +kernel
theorem dX8_toldBy_14 : decode cX8_toldBy 14 = .ok (.iaload, 1) := by decide +kernel
theorem dX8_toldBy_15 : decode cX8_toldBy 15 = .ok (.if_icmp .ge 35, 3) := by decide +kernel
theorem dX8_toldBy_18 : decode cX8_toldBy 18 = .ok (.aload_n 0, 1) := by decide +kernel
theorem dX8_toldBy_19 : decode cX8_toldBy 19 = .ok (.aload_n 0, 1) := by decide +kernel
theorem dX8_toldBy_20 : decode cX8_toldBy 20 = .ok (.iload_n 1, 1) := by decide +kernel
theorem dX8_toldBy_21 : decode cX8_toldBy 21 = .ok (.iload_n 2, 1) := by decide +kernel
theorem dX8_toldBy_22 : decode cX8_toldBy 22 = .ok (.iload 4, 2) := by decide +kernel
theorem dX8_toldBy_24 : decode cX8_toldBy 24 = .ok (.invokevirtual 133, 3) := by decide +kernel
theorem dX8_toldBy_27 : decode cX8_toldBy 27 = .ok (.iload_n 3, 1) := by decide +kernel
theorem dX8_toldBy_28 : decode cX8_toldBy 28 = .ok (.ifCond .eq 12, 3) := by decide +kernel
theorem dX8_toldBy_31 : decode cX8_toldBy 31 = .ok (.aload_n 0, 1) := by decide +kernel
theorem dX8_toldBy_32 : decode cX8_toldBy 32 = .ok (.iload 4, 2) := by decide +kernel
theorem dX8_toldBy_34 : decode cX8_toldBy 34 = .ok (.invokevirtual 139, 3) := by decide +kernel
theorem dX8_toldBy_37 : decode cX8_toldBy 37 = .ok (.goto 4, 3) := by decide +kernel
theorem dX8_toldBy_40 : decode cX8_toldBy 40 = .ok (.iconst 1, 1) := by decide +kernel
theorem dX8_toldBy_41 : decode cX8_toldBy 41 = .ok (.invokevirtual 142, 3) := by decide +kernel
theorem dX8_toldBy_44 : decode cX8_toldBy 44 = .ok (.iinc 4 1, 3) := by decide +kernel
theorem dX8_toldBy_47 : decode cX8_toldBy 47 = .ok (.goto (-40), 3) := by decide +kernel
theorem dX8_toldBy_50 : decode cX8_toldBy 50 = .ok (.aload_n 0, 1) := by decide +kernel
theorem dX8_toldBy_51 : decode cX8_toldBy 51 = .ok (.invokevirtual 146, 3) := by decide +kernel
theorem dX8_toldBy_54 : decode cX8_toldBy 54 = .ok (.ireturn, 1) := by decide +kernel
theorem dX8_shift_0 : decode cX8_shift 0 = .ok (.aload_n 0, 1) := by decide +kernel
theorem dX8_shift_1 : decode cX8_shift 1 = .ok (.iload_n 1, 1) := by decide +kernel
theorem dX8_shift_2 : decode cX8_shift 2 = .ok (.iload_n 2, 1) := by decide +kernel
theorem dX8_shift_3 : decode cX8_shift 3 = .ok (.invokevirtual 130, 3) := by decide +kernel
theorem dX8_shift_6 : decode cX8_shift 6 = .ok (.ifCond .ne 6, 3) := by decide +kernel
theorem dX8_shift_9 : decode cX8_shift 9 = .ok (.ldc 44, 2) := by decide +kernel
theorem dX8_shift_11 : decode cX8_shift 11 = .ok (.ireturn, 1) := by decide +kernel
theorem dX8_shift_12 : decode cX8_shift 12 = .ok (.aload_n 0, 1) := by decide +kernel
theorem dX8_shift_13 : decode cX8_shift 13 = .ok (.iload_n 1, 1) := by decide +kernel
theorem dX8_shift_14 : decode cX8_shift 14 = .ok (.iload_n 2, 1) := by decide +kernel
theorem dX8_shift_15 : decode cX8_shift 15 = .ok (.iconst 0, 1) := by decide +kernel
theorem dX8_shift_16 : decode cX8_shift 16 = .ok (.invokevirtual 150, 3) := by decide +kernel
theorem dX8_shift_19 : decode cX8_shift 19 = .ok (.istore_n 3, 1) := by decide +kernel
theorem dX8_shift_20 : decode cX8_shift 20 = .ok (.iload_n 3, 1) := by decide +kernel
theorem dX8_shift_21 : decode cX8_shift 21 = .ok (.ldc 49, 2) := by decide +kernel
theorem dX8_shift_23 : decode cX8_shift 23 = .ok (.if_icmp .ne 8, 3) := by decide +kernel
theorem dX8_shift_26 : decode cX8_shift 26 = .ok (.ldc 120, 2) := by decide +kernel
theorem dX8_shift_28 : decode cX8_shift 28 = .ok (.goto 4, 3) := by decide +kernel
theorem dX8_shift_31 : decode cX8_shift 31 = .ok (.iload_n 3, 1) := by decide +kernel
theorem dX8_shift_32 : decode cX8_shift 32 = .ok (.ireturn, 1) := by decide +kernel
theorem dX8_votersOf_0 : decode cX8_votersOf 0 = .ok (.iconst 0, 1) := by decide +kernel
theorem dX8_votersOf_1 : decode cX8_votersOf 1 = .ok (.istore 5, 2) := by decide +kernel
theorem dX8_votersOf_3 : decode cX8_votersOf 3 = .ok (.iconst 0, 1) := by decide +kernel
theorem dX8_votersOf_4 : decode cX8_votersOf 4 = .ok (.istore 6, 2) := by decide +kernel
theorem dX8_votersOf_6 : decode cX8_votersOf 6 = .ok (.iload 6, 2) := by decide +kernel
theorem dX8_votersOf_8 : decode cX8_votersOf 8 = .ok (.aload_n 0, 1) := by decide +kernel
theorem dX8_votersOf_9 : decode cX8_votersOf 9 = .ok (.getfield 7, 3) := by decide +kernel
theorem dX8_votersOf_12 : decode cX8_votersOf 12 = .ok (.iconst 0, 1) := by decide +kernel
theorem dX8_votersOf_13 : decode cX8_votersOf 13 = .ok (.iaload, 1) := by decide +kernel
theorem dX8_votersOf_14 : decode cX8_votersOf 14 = .ok (.if_icmp .ge 55, 3) := by decide +kernel
theorem dX8_votersOf_17 : decode cX8_votersOf 17 = .ok (.aload_n 0, 1) := by decide +kernel
theorem dX8_votersOf_18 : decode cX8_votersOf 18 = .ok (.iload_n 1, 1) := by decide +kernel
theorem dX8_votersOf_19 : decode cX8_votersOf 19 = .ok (.iload_n 2, 1) := by decide +kernel
theorem dX8_votersOf_20 : decode cX8_votersOf 20 = .ok (.iload 6, 2) := by decide +kernel
theorem dX8_votersOf_22 : decode cX8_votersOf 22 = .ok (.invokevirtual 133, 3) := by decide +kernel
theorem dX8_votersOf_25 : decode cX8_votersOf 25 = .ok (.istore 7, 2) := by decide +kernel
theorem dX8_votersOf_27 : decode cX8_votersOf 27 = .ok (.iload 5, 2) := by decide +kernel
theorem dX8_votersOf_29 : decode cX8_votersOf 29 = .ok (.iload 7, 2) := by decide +kernel
theorem dX8_votersOf_31 : decode cX8_votersOf 31 = .ok (.ldc 49, 2) := by decide +kernel
theorem dX8_votersOf_33 : decode cX8_votersOf 33 = .ok (.if_icmp .eq 26, 3) := by decide +kernel
theorem dX8_votersOf_36 : decode cX8_votersOf 36 = .ok (.iload 7, 2) := by decide +kernel
theorem dX8_votersOf_38 : decode cX8_votersOf 38 = .ok (.iload_n 3, 1) := by decide +kernel
theorem dX8_votersOf_39 : decode cX8_votersOf 39 = .ok (.if_icmp .ne 7, 3) := by decide +kernel
theorem dX8_votersOf_42 : decode cX8_votersOf 42 = .ok (.iconst 1, 1) := by decide +kernel
theorem dX8_votersOf_43 : decode cX8_votersOf 43 = .ok (.goto 4, 3) := by decide +kernel
theorem dX8_votersOf_46 : decode cX8_votersOf 46 = .ok (.iconst 0, 1) := by decide +kernel
theorem dX8_votersOf_47 : decode cX8_votersOf 47 = .ok (.iload 4, 2) := by decide +kernel
theorem dX8_votersOf_49 : decode cX8_votersOf 49 = .ok (.if_icmp .ne 10, 3) := by decide +kernel
theorem dX8_votersOf_52 : decode cX8_votersOf 52 = .ok (.iconst 1, 1) := by decide +kernel
theorem dX8_votersOf_53 : decode cX8_votersOf 53 = .ok (.iload 6, 2) := by decide +kernel
theorem dX8_votersOf_55 : decode cX8_votersOf 55 = .ok (.ishl, 1) := by decide +kernel
theorem dX8_votersOf_56 : decode cX8_votersOf 56 = .ok (.goto 4, 3) := by decide +kernel
theorem dX8_votersOf_59 : decode cX8_votersOf 59 = .ok (.iconst 0, 1) := by decide +kernel
theorem dX8_votersOf_60 : decode cX8_votersOf 60 = .ok (.ior, 1) := by decide +kernel
theorem dX8_votersOf_61 : decode cX8_votersOf 61 = .ok (.istore 5, 2) := by decide +kernel
theorem dX8_votersOf_63 : decode cX8_votersOf 63 = .ok (.iinc 6 1, 3) := by decide +kernel
theorem dX8_votersOf_66 : decode cX8_votersOf 66 = .ok (.goto (-60), 3) := by decide +kernel
theorem dX8_votersOf_69 : decode cX8_votersOf 69 = .ok (.iload 5, 2) := by decide +kernel
theorem dX8_votersOf_71 : decode cX8_votersOf 71 = .ok (.ireturn, 1) := by decide +kernel
theorem dX8_voters_0 : decode cX8_voters 0 = .ok (.aload_n 0, 1) := by decide +kernel
theorem dX8_voters_1 : decode cX8_voters 1 = .ok (.iload_n 1, 1) := by decide +kernel
theorem dX8_voters_2 : decode cX8_voters 2 = .ok (.iload_n 2, 1) := by decide +kernel
theorem dX8_voters_3 : decode cX8_voters 3 = .ok (.invokevirtual 130, 3) := by decide +kernel
theorem dX8_voters_6 : decode cX8_voters 6 = .ok (.ifCond .eq 25, 3) := by decide +kernel
theorem dX8_voters_9 : decode cX8_voters 9 = .ok (.iload_n 3, 1) := by decide +kernel
theorem dX8_voters_10 : decode cX8_voters 10 = .ok (.bipush (-8), 2) := by decide +kernel
theorem dX8_voters_12 : decode cX8_voters 12 = .ok (.bipush 8, 2) := by decide +kernel
theorem dX8_voters_14 : decode cX8_voters 14 = .ok (.invokestatic 36, 3) := by decide +kernel
theorem dX8_voters_17 : decode cX8_voters 17 = .ok (.ifCond .eq 14, 3) := by decide +kernel
theorem dX8_voters_20 : decode cX8_voters 20 = .ok (.aload_n 0, 1) := by decide +kernel
theorem dX8_voters_21 : decode cX8_voters 21 = .ok (.iload_n 1, 1) := by decide +kernel
theorem dX8_voters_22 : decode cX8_voters 22 = .ok (.iload_n 2, 1) := by decide +kernel
theorem dX8_voters_23 : decode cX8_voters 23 = .ok (.iload_n 3, 1) := by decide +kernel
theorem dX8_voters_24 : decode cX8_voters 24 = .ok (.iconst 1, 1) := by decide +kernel
theorem dX8_voters_25 : decode cX8_voters 25 = .ok (.invokevirtual 154, 3) := by decide +kernel
theorem dX8_voters_28 : decode cX8_voters 28 = .ok (.goto 5, 3) := by decide +kernel
theorem dX8_voters_31 : decode cX8_voters 31 = .ok (.ldc 44, 2) := by decide +kernel
theorem dX8_voters_33 : decode cX8_voters 33 = .ok (.ireturn, 1) := by decide +kernel
theorem dX8_dissent_0 : decode cX8_dissent 0 = .ok (.aload_n 0, 1) := by decide +kernel
theorem dX8_dissent_1 : decode cX8_dissent 1 = .ok (.iload_n 1, 1) := by decide +kernel
theorem dX8_dissent_2 : decode cX8_dissent 2 = .ok (.iload_n 2, 1) := by decide +kernel
theorem dX8_dissent_3 : decode cX8_dissent 3 = .ok (.invokevirtual 130, 3) := by decide +kernel
theorem dX8_dissent_6 : decode cX8_dissent 6 = .ok (.ifCond .ne 6, 3) := by decide +kernel
theorem dX8_dissent_9 : decode cX8_dissent 9 = .ok (.ldc 44, 2) := by decide +kernel
theorem dX8_dissent_11 : decode cX8_dissent 11 = .ok (.ireturn, 1) := by decide +kernel
theorem dX8_dissent_12 : decode cX8_dissent 12 = .ok (.aload_n 0, 1) := by decide +kernel
theorem dX8_dissent_13 : decode cX8_dissent 13 = .ok (.iload_n 1, 1) := by decide +kernel
theorem dX8_dissent_14 : decode cX8_dissent 14 = .ok (.iload_n 2, 1) := by decide +kernel
theorem dX8_dissent_15 : decode cX8_dissent 15 = .ok (.iconst 0, 1) := by decide +kernel
theorem dX8_dissent_16 : decode cX8_dissent 16 = .ok (.invokevirtual 150, 3) := by decide +kernel
theorem dX8_dissent_19 : decode cX8_dissent 19 = .ok (.istore_n 3, 1) := by decide +kernel
theorem dX8_dissent_20 : decode cX8_dissent 20 = .ok (.iload_n 3, 1) := by decide +kernel
theorem dX8_dissent_21 : decode cX8_dissent 21 = .ok (.ldc 49, 2) := by decide +kernel
theorem dX8_dissent_23 : decode cX8_dissent 23 = .ok (.if_icmp .ne 8, 3) := by decide +kernel
theorem dX8_dissent_26 : decode cX8_dissent 26 = .ok (.ldc 120, 2) := by decide +kernel
theorem dX8_dissent_28 : decode cX8_dissent 28 = .ok (.goto 11, 3) := by decide +kernel
theorem dX8_dissent_31 : decode cX8_dissent 31 = .ok (.aload_n 0, 1) := by decide +kernel
theorem dX8_dissent_32 : decode cX8_dissent 32 = .ok (.iload_n 1, 1) := by decide +kernel
theorem dX8_dissent_33 : decode cX8_dissent 33 = .ok (.iload_n 2, 1) := by decide +kernel
theorem dX8_dissent_34 : decode cX8_dissent 34 = .ok (.iload_n 3, 1) := by decide +kernel
theorem dX8_dissent_35 : decode cX8_dissent 35 = .ok (.iconst 0, 1) := by decide +kernel
theorem dX8_dissent_36 : decode cX8_dissent 36 = .ok (.invokevirtual 154, 3) := by decide +kernel
theorem dX8_dissent_39 : decode cX8_dissent 39 = .ok (.ireturn, 1) := by decide +kernel
theorem dX8_speed_0 : decode cX8_speed 0 = .ok (.aload_n 0, 1) := by decide +kernel
theorem dX8_speed_1 : decode cX8_speed 1 = .ok (.iload_n 1, 1) := by decide +kernel
theorem dX8_speed_2 : decode cX8_speed 2 = .ok (.iload_n 2, 1) := by decide +kernel
theorem dX8_speed_3 : decode cX8_speed 3 = .ok (.invokevirtual 130, 3) := by decide +kernel
theorem dX8_speed_6 : decode cX8_speed 6 = .ok (.ifCond .ne 6, 3) := by decide +kernel
theorem dX8_speed_9 : decode cX8_speed 9 = .ok (.ldc 44, 2) := by decide +kernel
theorem dX8_speed_11 : decode cX8_speed 11 = .ok (.ireturn, 1) := by decide +kernel
theorem dX8_speed_12 : decode cX8_speed 12 = .ok (.aload_n 0, 1) := by decide +kernel
theorem dX8_speed_13 : decode cX8_speed 13 = .ok (.iload_n 2, 1) := by decide +kernel
theorem dX8_speed_14 : decode cX8_speed 14 = .ok (.iconst 0, 1) := by decide +kernel
theorem dX8_speed_15 : decode cX8_speed 15 = .ok (.invokevirtual 100, 3) := by decide +kernel
theorem dX8_speed_18 : decode cX8_speed 18 = .ok (.aload_n 0, 1) := by decide +kernel
theorem dX8_speed_19 : decode cX8_speed 19 = .ok (.iload_n 1, 1) := by decide +kernel
theorem dX8_speed_20 : decode cX8_speed 20 = .ok (.iconst 0, 1) := by decide +kernel
theorem dX8_speed_21 : decode cX8_speed 21 = .ok (.invokevirtual 100, 3) := by decide +kernel
theorem dX8_speed_24 : decode cX8_speed 24 = .ok (.isub, 1) := by decide +kernel
theorem dX8_speed_25 : decode cX8_speed 25 = .ok (.istore_n 3, 1) := by decide +kernel
theorem dX8_speed_26 : decode cX8_speed 26 = .ok (.iload_n 3, 1) := by decide +kernel
theorem dX8_speed_27 : decode cX8_speed 27 = .ok (.ifCond .ne 6, 3) := by decide +kernel
theorem dX8_speed_30 : decode cX8_speed 30 = .ok (.ldc 45, 2) := by decide +kernel
theorem dX8_speed_32 : decode cX8_speed 32 = .ok (.ireturn, 1) := by decide +kernel
theorem dX8_speed_33 : decode cX8_speed 33 = .ok (.aload_n 0, 1) := by decide +kernel
theorem dX8_speed_34 : decode cX8_speed 34 = .ok (.iload_n 1, 1) := by decide +kernel
theorem dX8_speed_35 : decode cX8_speed 35 = .ok (.iload_n 2, 1) := by decide +kernel
theorem dX8_speed_36 : decode cX8_speed 36 = .ok (.iconst 0, 1) := by decide +kernel
theorem dX8_speed_37 : decode cX8_speed 37 = .ok (.invokevirtual 150, 3) := by decide +kernel
theorem dX8_speed_40 : decode cX8_speed 40 = .ok (.istore 4, 2) := by decide +kernel
theorem dX8_speed_42 : decode cX8_speed 42 = .ok (.iload 4, 2) := by decide +kernel
theorem dX8_speed_44 : decode cX8_speed 44 = .ok (.ldc 49, 2) := by decide +kernel
theorem dX8_speed_46 : decode cX8_speed 46 = .ok (.if_icmp .ne 8, 3) := by decide +kernel
theorem dX8_speed_49 : decode cX8_speed 49 = .ok (.ldc 120, 2) := by decide +kernel
theorem dX8_speed_51 : decode cX8_speed 51 = .ok (.goto 10, 3) := by decide +kernel
theorem dX8_speed_54 : decode cX8_speed 54 = .ok (.bipush 100, 2) := by decide +kernel
theorem dX8_speed_56 : decode cX8_speed 56 = .ok (.iload 4, 2) := by decide +kernel
theorem dX8_speed_58 : decode cX8_speed 58 = .ok (.imul, 1) := by decide +kernel
theorem dX8_speed_59 : decode cX8_speed 59 = .ok (.iload_n 3, 1) := by decide +kernel
theorem dX8_speed_60 : decode cX8_speed 60 = .ok (.idiv, 1) := by decide +kernel
theorem dX8_speed_61 : decode cX8_speed 61 = .ok (.ireturn, 1) := by decide +kernel
theorem dX8_slantOf_0 : decode cX8_slantOf 0 = .ok (.aload_n 0, 1) := by decide +kernel
theorem dX8_slantOf_1 : decode cX8_slantOf 1 = .ok (.invokevirtual 136, 3) := by decide +kernel
theorem dX8_slantOf_4 : decode cX8_slantOf 4 = .ok (.iconst 0, 1) := by decide +kernel
theorem dX8_slantOf_5 : decode cX8_slantOf 5 = .ok (.istore_n 2, 1) := by decide +kernel
theorem dX8_slantOf_6 : decode cX8_slantOf 6 = .ok (.iload_n 2, 1) := by decide +kernel
theorem dX8_slantOf_7 : decode cX8_slantOf 7 = .ok (.aload_n 0, 1) := by decide +kernel
theorem dX8_slantOf_8 : decode cX8_slantOf 8 = .ok (.getfield 7, 3) := by decide +kernel
theorem dX8_slantOf_11 : decode cX8_slantOf 11 = .ok (.iconst 0, 1) := by decide +kernel
theorem dX8_slantOf_12 : decode cX8_slantOf 12 = .ok (.iaload, 1) := by decide +kernel
theorem dX8_slantOf_13 : decode cX8_slantOf 13 = .ok (.iconst 1, 1) := by decide +kernel
theorem dX8_slantOf_14 : decode cX8_slantOf 14 = .ok (.isub, 1) := by decide +kernel
theorem dX8_slantOf_15 : decode cX8_slantOf 15 = .ok (.if_icmp .ge 31, 3) := by decide +kernel
theorem dX8_slantOf_18 : decode cX8_slantOf 18 = .ok (.aload_n 0, 1) := by decide +kernel
theorem dX8_slantOf_19 : decode cX8_slantOf 19 = .ok (.aload_n 0, 1) := by decide +kernel
theorem dX8_slantOf_20 : decode cX8_slantOf 20 = .ok (.iload_n 1, 1) := by decide +kernel
theorem dX8_slantOf_21 : decode cX8_slantOf 21 = .ok (.iload_n 2, 1) := by decide +kernel
theorem dX8_slantOf_22 : decode cX8_slantOf 22 = .ok (.invokevirtual 117, 3) := by decide +kernel
theorem dX8_slantOf_25 : decode cX8_slantOf 25 = .ok (.aload_n 0, 1) := by decide +kernel
theorem dX8_slantOf_26 : decode cX8_slantOf 26 = .ok (.iload_n 1, 1) := by decide +kernel
theorem dX8_slantOf_27 : decode cX8_slantOf 27 = .ok (.iload_n 2, 1) := by decide +kernel
theorem dX8_slantOf_28 : decode cX8_slantOf 28 = .ok (.iconst 1, 1) := by decide +kernel
theorem dX8_slantOf_29 : decode cX8_slantOf 29 = .ok (.iadd, 1) := by decide +kernel
theorem dX8_slantOf_30 : decode cX8_slantOf 30 = .ok (.invokevirtual 117, 3) := by decide +kernel
theorem dX8_slantOf_33 : decode cX8_slantOf 33 = .ok (.invokestatic 127, 3) := by decide +kernel
theorem dX8_slantOf_36 : decode cX8_slantOf 36 = .ok (.iconst 1, 1) := by decide +kernel
theorem dX8_slantOf_37 : decode cX8_slantOf 37 = .ok (.invokevirtual 142, 3) := by decide +kernel
theorem dX8_slantOf_40 : decode cX8_slantOf 40 = .ok (.iinc 2 1, 3) := by decide +kernel
theorem dX8_slantOf_43 : decode cX8_slantOf 43 = .ok (.goto (-37), 3) := by decide +kernel
theorem dX8_slantOf_46 : decode cX8_slantOf 46 = .ok (.aload_n 0, 1) := by decide +kernel
theorem dX8_slantOf_47 : decode cX8_slantOf 47 = .ok (.invokevirtual 146, 3) := by decide +kernel
theorem dX8_slantOf_50 : decode cX8_slantOf 50 = .ok (.ireturn, 1) := by decide +kernel
theorem dX8_slant_0 : decode cX8_slant 0 = .ok (.aload_n 0, 1) := by decide +kernel
theorem dX8_slant_1 : decode cX8_slant 1 = .ok (.iload_n 1, 1) := by decide +kernel
theorem dX8_slant_2 : decode cX8_slant 2 = .ok (.invokevirtual 97, 3) := by decide +kernel
theorem dX8_slant_5 : decode cX8_slant 5 = .ok (.ifCond .ne 6, 3) := by decide +kernel
theorem dX8_slant_8 : decode cX8_slant 8 = .ok (.ldc 44, 2) := by decide +kernel
theorem dX8_slant_10 : decode cX8_slant 10 = .ok (.ireturn, 1) := by decide +kernel
theorem dX8_slant_11 : decode cX8_slant 11 = .ok (.aload_n 0, 1) := by decide +kernel
theorem dX8_slant_12 : decode cX8_slant 12 = .ok (.iload_n 1, 1) := by decide +kernel
theorem dX8_slant_13 : decode cX8_slant 13 = .ok (.invokevirtual 158, 3) := by decide +kernel
theorem dX8_slant_16 : decode cX8_slant 16 = .ok (.istore_n 2, 1) := by decide +kernel
theorem dX8_slant_17 : decode cX8_slant 17 = .ok (.iload_n 2, 1) := by decide +kernel
theorem dX8_slant_18 : decode cX8_slant 18 = .ok (.ldc 49, 2) := by decide +kernel
theorem dX8_slant_20 : decode cX8_slant 20 = .ok (.if_icmp .ne 8, 3) := by decide +kernel
theorem dX8_slant_23 : decode cX8_slant 23 = .ok (.ldc 120, 2) := by decide +kernel
theorem dX8_slant_25 : decode cX8_slant 25 = .ok (.goto 4, 3) := by decide +kernel
theorem dX8_slant_28 : decode cX8_slant 28 = .ok (.iload_n 2, 1) := by decide +kernel
theorem dX8_slant_29 : decode cX8_slant 29 = .ok (.ireturn, 1) := by decide +kernel
theorem dX8_slantSpeed_0 : decode cX8_slantSpeed 0 = .ok (.aload_n 0, 1) := by decide +kernel
theorem dX8_slantSpeed_1 : decode cX8_slantSpeed 1 = .ok (.iload_n 1, 1) := by decide +kernel
theorem dX8_slantSpeed_2 : decode cX8_slantSpeed 2 = .ok (.invokevirtual 97, 3) := by decide +kernel
theorem dX8_slantSpeed_5 : decode cX8_slantSpeed 5 = .ok (.ifCond .ne 6, 3) := by decide +kernel
theorem dX8_slantSpeed_8 : decode cX8_slantSpeed 8 = .ok (.ldc 44, 2) := by decide +kernel
theorem dX8_slantSpeed_10 : decode cX8_slantSpeed 10 = .ok (.ireturn, 1) := by decide +kernel
theorem dX8_slantSpeed_11 : decode cX8_slantSpeed 11 = .ok (.aload_n 0, 1) := by decide +kernel
theorem dX8_slantSpeed_12 : decode cX8_slantSpeed 12 = .ok (.getfield 7, 3) := by decide +kernel
theorem dX8_slantSpeed_15 : decode cX8_slantSpeed 15 = .ok (.iconst 2, 1) := by decide +kernel
theorem dX8_slantSpeed_16 : decode cX8_slantSpeed 16 = .ok (.iaload, 1) := by decide +kernel
theorem dX8_slantSpeed_17 : decode cX8_slantSpeed 17 = .ok (.ifCond .ne 6, 3) := by decide +kernel
theorem dX8_slantSpeed_20 : decode cX8_slantSpeed 20 = .ok (.ldc 45, 2) := by decide +kernel
theorem dX8_slantSpeed_22 : decode cX8_slantSpeed 22 = .ok (.ireturn, 1) := by decide +kernel
theorem dX8_slantSpeed_23 : decode cX8_slantSpeed 23 = .ok (.aload_n 0, 1) := by decide +kernel
theorem dX8_slantSpeed_24 : decode cX8_slantSpeed 24 = .ok (.iload_n 1, 1) := by decide +kernel
theorem dX8_slantSpeed_25 : decode cX8_slantSpeed 25 = .ok (.invokevirtual 158, 3) := by decide +kernel
theorem dX8_slantSpeed_28 : decode cX8_slantSpeed 28 = .ok (.istore_n 2, 1) := by decide +kernel
theorem dX8_slantSpeed_29 : decode cX8_slantSpeed 29 = .ok (.iload_n 2, 1) := by decide +kernel
theorem dX8_slantSpeed_30 : decode cX8_slantSpeed 30 = .ok (.ldc 49, 2) := by decide +kernel
theorem dX8_slantSpeed_32 : decode cX8_slantSpeed 32 = .ok (.if_icmp .ne 8, 3) := by decide +kernel
theorem dX8_slantSpeed_35 : decode cX8_slantSpeed 35 = .ok (.ldc 120, 2) := by decide +kernel
theorem dX8_slantSpeed_37 : decode cX8_slantSpeed 37 = .ok (.goto 14, 3) := by decide +kernel
theorem dX8_slantSpeed_40 : decode cX8_slantSpeed 40 = .ok (.bipush 100, 2) := by decide +kernel
theorem dX8_slantSpeed_42 : decode cX8_slantSpeed 42 = .ok (.iload_n 2, 1) := by decide +kernel
theorem dX8_slantSpeed_43 : decode cX8_slantSpeed 43 = .ok (.imul, 1) := by decide +kernel
theorem dX8_slantSpeed_44 : decode cX8_slantSpeed 44 = .ok (.aload_n 0, 1) := by decide +kernel
theorem dX8_slantSpeed_45 : decode cX8_slantSpeed 45 = .ok (.getfield 7, 3) := by decide +kernel
theorem dX8_slantSpeed_48 : decode cX8_slantSpeed 48 = .ok (.iconst 2, 1) := by decide +kernel
theorem dX8_slantSpeed_49 : decode cX8_slantSpeed 49 = .ok (.iaload, 1) := by decide +kernel
theorem dX8_slantSpeed_50 : decode cX8_slantSpeed 50 = .ok (.idiv, 1) := by decide +kernel
theorem dX8_slantSpeed_51 : decode cX8_slantSpeed 51 = .ok (.ireturn, 1) := by decide +kernel
theorem dX8_weighed_0 : decode cX8_weighed 0 = .ok (.aload_n 0, 1) := by decide +kernel
theorem dX8_weighed_1 : decode cX8_weighed 1 = .ok (.iload_n 1, 1) := by decide +kernel
theorem dX8_weighed_2 : decode cX8_weighed 2 = .ok (.iload_n 2, 1) := by decide +kernel
theorem dX8_weighed_3 : decode cX8_weighed 3 = .ok (.invokevirtual 130, 3) := by decide +kernel
theorem dX8_weighed_6 : decode cX8_weighed 6 = .ok (.ifCond .ne 6, 3) := by decide +kernel
theorem dX8_weighed_9 : decode cX8_weighed 9 = .ok (.ldc 44, 2) := by decide +kernel
theorem dX8_weighed_11 : decode cX8_weighed 11 = .ok (.ireturn, 1) := by decide +kernel
theorem dX8_weighed_12 : decode cX8_weighed 12 = .ok (.aload_n 0, 1) := by decide +kernel
theorem dX8_weighed_13 : decode cX8_weighed 13 = .ok (.iload_n 1, 1) := by decide +kernel
theorem dX8_weighed_14 : decode cX8_weighed 14 = .ok (.iload_n 2, 1) := by decide +kernel
theorem dX8_weighed_15 : decode cX8_weighed 15 = .ok (.iconst 1, 1) := by decide +kernel
theorem dX8_weighed_16 : decode cX8_weighed 16 = .ok (.invokevirtual 150, 3) := by decide +kernel
theorem dX8_weighed_19 : decode cX8_weighed 19 = .ok (.istore_n 3, 1) := by decide +kernel
theorem dX8_weighed_20 : decode cX8_weighed 20 = .ok (.iload_n 3, 1) := by decide +kernel
theorem dX8_weighed_21 : decode cX8_weighed 21 = .ok (.ldc 49, 2) := by decide +kernel
theorem dX8_weighed_23 : decode cX8_weighed 23 = .ok (.if_icmp .ne 8, 3) := by decide +kernel
theorem dX8_weighed_26 : decode cX8_weighed 26 = .ok (.ldc 120, 2) := by decide +kernel
theorem dX8_weighed_28 : decode cX8_weighed 28 = .ok (.goto 4, 3) := by decide +kernel
theorem dX8_weighed_31 : decode cX8_weighed 31 = .ok (.iload_n 3, 1) := by decide +kernel
theorem dX8_weighed_32 : decode cX8_weighed 32 = .ok (.ireturn, 1) := by decide +kernel
theorem dX8_judge_0 : decode cX8_judge 0 = .ok (.aload_n 0, 1) := by decide +kernel
theorem dX8_judge_1 : decode cX8_judge 1 = .ok (.iload_n 1, 1) := by decide +kernel
theorem dX8_judge_2 : decode cX8_judge 2 = .ok (.iload_n 2, 1) := by decide +kernel
theorem dX8_judge_3 : decode cX8_judge 3 = .ok (.invokevirtual 130, 3) := by decide +kernel
theorem dX8_judge_6 : decode cX8_judge 6 = .ok (.ifCond .ne 6, 3) := by decide +kernel
theorem dX8_judge_9 : decode cX8_judge 9 = .ok (.ldc 44, 2) := by decide +kernel
theorem dX8_judge_11 : decode cX8_judge 11 = .ok (.ireturn, 1) := by decide +kernel
theorem dX8_judge_12 : decode cX8_judge 12 = .ok (.aload_n 0, 1) := by decide +kernel
theorem dX8_judge_13 : decode cX8_judge 13 = .ok (.iload_n 1, 1) := by decide +kernel
theorem dX8_judge_14 : decode cX8_judge 14 = .ok (.iload_n 2, 1) := by decide +kernel
theorem dX8_judge_15 : decode cX8_judge 15 = .ok (.iconst 0, 1) := by decide +kernel
theorem dX8_judge_16 : decode cX8_judge 16 = .ok (.invokevirtual 150, 3) := by decide +kernel
theorem dX8_judge_19 : decode cX8_judge 19 = .ok (.istore_n 3, 1) := by decide +kernel
theorem dX8_judge_20 : decode cX8_judge 20 = .ok (.iload_n 3, 1) := by decide +kernel
theorem dX8_judge_21 : decode cX8_judge 21 = .ok (.ldc 49, 2) := by decide +kernel
theorem dX8_judge_23 : decode cX8_judge 23 = .ok (.if_icmp .ne 6, 3) := by decide +kernel
theorem dX8_judge_26 : decode cX8_judge 26 = .ok (.ldc 120, 2) := by decide +kernel
theorem dX8_judge_28 : decode cX8_judge 28 = .ok (.ireturn, 1) := by decide +kernel
theorem dX8_judge_29 : decode cX8_judge 29 = .ok (.aload_n 0, 1) := by decide +kernel
theorem dX8_judge_30 : decode cX8_judge 30 = .ok (.iload_n 1, 1) := by decide +kernel
theorem dX8_judge_31 : decode cX8_judge 31 = .ok (.iload_n 2, 1) := by decide +kernel
theorem dX8_judge_32 : decode cX8_judge 32 = .ok (.iload_n 3, 1) := by decide +kernel
theorem dX8_judge_33 : decode cX8_judge 33 = .ok (.iconst 1, 1) := by decide +kernel
theorem dX8_judge_34 : decode cX8_judge 34 = .ok (.invokevirtual 154, 3) := by decide +kernel
theorem dX8_judge_37 : decode cX8_judge 37 = .ok (.istore 4, 2) := by decide +kernel
theorem dX8_judge_39 : decode cX8_judge 39 = .ok (.aload_n 0, 1) := by decide +kernel
theorem dX8_judge_40 : decode cX8_judge 40 = .ok (.iload_n 1, 1) := by decide +kernel
theorem dX8_judge_41 : decode cX8_judge 41 = .ok (.iload_n 2, 1) := by decide +kernel
theorem dX8_judge_42 : decode cX8_judge 42 = .ok (.iload_n 3, 1) := by decide +kernel
theorem dX8_judge_43 : decode cX8_judge 43 = .ok (.iconst 0, 1) := by decide +kernel
theorem dX8_judge_44 : decode cX8_judge 44 = .ok (.invokevirtual 154, 3) := by decide +kernel
theorem dX8_judge_47 : decode cX8_judge 47 = .ok (.istore 5, 2) := by decide +kernel
theorem dX8_judge_49 : decode cX8_judge 49 = .ok (.aload_n 0, 1) := by decide +kernel
theorem dX8_judge_50 : decode cX8_judge 50 = .ok (.invokevirtual 46, 3) := by decide +kernel
theorem dX8_judge_53 : decode cX8_judge 53 = .ok (.iconst 0, 1) := by decide +kernel
theorem dX8_judge_54 : decode cX8_judge 54 = .ok (.istore 6, 2) := by decide +kernel
theorem dX8_judge_56 : decode cX8_judge 56 = .ok (.iload 6, 2) := by decide +kernel
theorem dX8_judge_58 : decode cX8_judge 58 = .ok (.bipush 10, 2) := by decide +kernel
theorem dX8_judge_60 : decode cX8_judge 60 = .ok (.if_icmp .ge 51, 3) := by decide +kernel
theorem dX8_judge_63 : decode cX8_judge 63 = .ok (.aload_n 0, 1) := by decide +kernel
theorem dX8_judge_64 : decode cX8_judge 64 = .ok (.getfield 7, 3) := by decide +kernel
theorem dX8_judge_67 : decode cX8_judge 67 = .ok (.sipush 847, 3) := by decide +kernel
theorem dX8_judge_70 : decode cX8_judge 70 = .ok (.iload 6, 2) := by decide +kernel
theorem dX8_judge_72 : decode cX8_judge 72 = .ok (.iadd, 1) := by decide +kernel
theorem dX8_judge_73 : decode cX8_judge 73 = .ok (.dup2, 1) := by decide +kernel
theorem dX8_judge_74 : decode cX8_judge 74 = .ok (.iaload, 1) := by decide +kernel
theorem dX8_judge_75 : decode cX8_judge 75 = .ok (.iload 4, 2) := by decide +kernel
theorem dX8_judge_77 : decode cX8_judge 77 = .ok (.iload 6, 2) := by decide +kernel
theorem dX8_judge_79 : decode cX8_judge 79 = .ok (.ishr, 1) := by decide +kernel
theorem dX8_judge_80 : decode cX8_judge 80 = .ok (.iconst 1, 1) := by decide +kernel
theorem dX8_judge_81 : decode cX8_judge 81 = .ok (.iand, 1) := by decide +kernel
theorem dX8_judge_82 : decode cX8_judge 82 = .ok (.iadd, 1) := by decide +kernel
theorem dX8_judge_83 : decode cX8_judge 83 = .ok (.iastore, 1) := by decide +kernel
theorem dX8_judge_84 : decode cX8_judge 84 = .ok (.aload_n 0, 1) := by decide +kernel
theorem dX8_judge_85 : decode cX8_judge 85 = .ok (.getfield 7, 3) := by decide +kernel
theorem dX8_judge_88 : decode cX8_judge 88 = .ok (.sipush 857, 3) := by decide +kernel
theorem dX8_judge_91 : decode cX8_judge 91 = .ok (.iload 6, 2) := by decide +kernel
theorem dX8_judge_93 : decode cX8_judge 93 = .ok (.iadd, 1) := by decide +kernel
theorem dX8_judge_94 : decode cX8_judge 94 = .ok (.dup2, 1) := by decide +kernel
theorem dX8_judge_95 : decode cX8_judge 95 = .ok (.iaload, 1) := by decide +kernel
theorem dX8_judge_96 : decode cX8_judge 96 = .ok (.iload 5, 2) := by decide +kernel
theorem dX8_judge_98 : decode cX8_judge 98 = .ok (.iload 6, 2) := by decide +kernel
theorem dX8_judge_100 : decode cX8_judge 100 = .ok (.ishr, 1) := by decide +kernel
theorem dX8_judge_101 : decode cX8_judge 101 = .ok (.iconst 1, 1) := by decide +kernel
theorem dX8_judge_102 : decode cX8_judge 102 = .ok (.iand, 1) := by decide +kernel
theorem dX8_judge_103 : decode cX8_judge 103 = .ok (.iadd, 1) := by decide +kernel
theorem dX8_judge_104 : decode cX8_judge 104 = .ok (.iastore, 1) := by decide +kernel
theorem dX8_judge_105 : decode cX8_judge 105 = .ok (.iinc 6 1, 3) := by decide +kernel
theorem dX8_judge_108 : decode cX8_judge 108 = .ok (.goto (-52), 3) := by decide +kernel
theorem dX8_judge_111 : decode cX8_judge 111 = .ok (.iload 4, 2) := by decide +kernel
theorem dX8_judge_113 : decode cX8_judge 113 = .ok (.invokestatic 67, 3) := by decide +kernel
theorem dX8_judge_116 : decode cX8_judge 116 = .ok (.iload 5, 2) := by decide +kernel
theorem dX8_judge_118 : decode cX8_judge 118 = .ok (.invokestatic 67, 3) := by decide +kernel
theorem dX8_judge_121 : decode cX8_judge 121 = .ok (.iadd, 1) := by decide +kernel
theorem dX8_judge_122 : decode cX8_judge 122 = .ok (.ireturn, 1) := by decide +kernel
theorem dX8_rowOf_0 : decode cX8_rowOf 0 = .ok (.iload_n 1, 1) := by decide +kernel
theorem dX8_rowOf_1 : decode cX8_rowOf 1 = .ok (.iconst 0, 1) := by decide +kernel
theorem dX8_rowOf_2 : decode cX8_rowOf 2 = .ok (.bipush 9, 2) := by decide +kernel
theorem dX8_rowOf_4 : decode cX8_rowOf 4 = .ok (.invokestatic 36, 3) := by decide +kernel
theorem dX8_rowOf_7 : decode cX8_rowOf 7 = .ok (.ifCond .ne 6, 3) := by decide +kernel
theorem dX8_rowOf_10 : decode cX8_rowOf 10 = .ok (.ldc 44, 2) := by decide +kernel
theorem dX8_rowOf_12 : decode cX8_rowOf 12 = .ok (.ireturn, 1) := by decide +kernel
theorem dX8_rowOf_13 : decode cX8_rowOf 13 = .ok (.iload_n 2, 1) := by decide +kernel
theorem dX8_rowOf_14 : decode cX8_rowOf 14 = .ok (.tableswitch 70 0 3 #[30, 42, 53, 64], 30) := by decide +kernel
theorem dX8_rowOf_44 : decode cX8_rowOf 44 = .ok (.aload_n 0, 1) := by decide +kernel
theorem dX8_rowOf_45 : decode cX8_rowOf 45 = .ok (.getfield 7, 3) := by decide +kernel
theorem dX8_rowOf_48 : decode cX8_rowOf 48 = .ok (.bipush 34, 2) := by decide +kernel
theorem dX8_rowOf_50 : decode cX8_rowOf 50 = .ok (.iaload, 1) := by decide +kernel
theorem dX8_rowOf_51 : decode cX8_rowOf 51 = .ok (.iload_n 1, 1) := by decide +kernel
theorem dX8_rowOf_52 : decode cX8_rowOf 52 = .ok (.ishr, 1) := by decide +kernel
theorem dX8_rowOf_53 : decode cX8_rowOf 53 = .ok (.iconst 1, 1) := by decide +kernel
theorem dX8_rowOf_54 : decode cX8_rowOf 54 = .ok (.iand, 1) := by decide +kernel
theorem dX8_rowOf_55 : decode cX8_rowOf 55 = .ok (.ireturn, 1) := by decide +kernel
theorem dX8_rowOf_56 : decode cX8_rowOf 56 = .ok (.aload_n 0, 1) := by decide +kernel
theorem dX8_rowOf_57 : decode cX8_rowOf 57 = .ok (.getfield 7, 3) := by decide +kernel
theorem dX8_rowOf_60 : decode cX8_rowOf 60 = .ok (.sipush 847, 3) := by decide +kernel
theorem dX8_rowOf_63 : decode cX8_rowOf 63 = .ok (.iload_n 1, 1) := by decide +kernel
theorem dX8_rowOf_64 : decode cX8_rowOf 64 = .ok (.iadd, 1) := by decide +kernel
theorem dX8_rowOf_65 : decode cX8_rowOf 65 = .ok (.iaload, 1) := by decide +kernel
theorem dX8_rowOf_66 : decode cX8_rowOf 66 = .ok (.ireturn, 1) := by decide +kernel
theorem dX8_rowOf_67 : decode cX8_rowOf 67 = .ok (.aload_n 0, 1) := by decide +kernel
theorem dX8_rowOf_68 : decode cX8_rowOf 68 = .ok (.getfield 7, 3) := by decide +kernel
theorem dX8_rowOf_71 : decode cX8_rowOf 71 = .ok (.sipush 857, 3) := by decide +kernel
theorem dX8_rowOf_74 : decode cX8_rowOf 74 = .ok (.iload_n 1, 1) := by decide +kernel
theorem dX8_rowOf_75 : decode cX8_rowOf 75 = .ok (.iadd, 1) := by decide +kernel
theorem dX8_rowOf_76 : decode cX8_rowOf 76 = .ok (.iaload, 1) := by decide +kernel
theorem dX8_rowOf_77 : decode cX8_rowOf 77 = .ok (.ireturn, 1) := by decide +kernel
theorem dX8_rowOf_78 : decode cX8_rowOf 78 = .ok (.aload_n 0, 1) := by decide +kernel
theorem dX8_rowOf_79 : decode cX8_rowOf 79 = .ok (.iload_n 1, 1) := by decide +kernel
theorem dX8_rowOf_80 : decode cX8_rowOf 80 = .ok (.invokevirtual 139, 3) := by decide +kernel
theorem dX8_rowOf_83 : decode cX8_rowOf 83 = .ok (.ireturn, 1) := by decide +kernel
theorem dX8_rowOf_84 : decode cX8_rowOf 84 = .ok (.ldc 44, 2) := by decide +kernel
theorem dX8_rowOf_86 : decode cX8_rowOf 86 = .ok (.ireturn, 1) := by decide +kernel
theorem dX8_edgesAt_0 : decode cX8_edgesAt 0 = .ok (.iconst 0, 1) := by decide +kernel
theorem dX8_edgesAt_1 : decode cX8_edgesAt 1 = .ok (.istore_n 3, 1) := by decide +kernel
theorem dX8_edgesAt_2 : decode cX8_edgesAt 2 = .ok (.iconst 1, 1) := by decide +kernel
theorem dX8_edgesAt_3 : decode cX8_edgesAt 3 = .ok (.istore 4, 2) := by decide +kernel
theorem dX8_edgesAt_5 : decode cX8_edgesAt 5 = .ok (.iload 4, 2) := by decide +kernel
theorem dX8_edgesAt_7 : decode cX8_edgesAt 7 = .ok (.aload_n 0, 1) := by decide +kernel
theorem dX8_edgesAt_8 : decode cX8_edgesAt 8 = .ok (.getfield 7, 3) := by decide +kernel
theorem dX8_edgesAt_11 : decode cX8_edgesAt 11 = .ok (.iconst 1, 1) := by decide +kernel
theorem dX8_edgesAt_12 : decode cX8_edgesAt 12 = .ok (.iaload, 1) := by decide +kernel
theorem dX8_edgesAt_13 : decode cX8_edgesAt 13 = .ok (.if_icmp .ge 75, 3) := by decide +kernel
theorem dX8_edgesAt_16 : decode cX8_edgesAt 16 = .ok (.aload_n 0, 1) := by decide +kernel
theorem dX8_edgesAt_17 : decode cX8_edgesAt 17 = .ok (.getfield 7, 3) := by decide +kernel
theorem dX8_edgesAt_20 : decode cX8_edgesAt 20 = .ok (.bipush 34, 2) := by decide +kernel
theorem dX8_edgesAt_22 : decode cX8_edgesAt 22 = .ok (.iaload, 1) := by decide +kernel
theorem dX8_edgesAt_23 : decode cX8_edgesAt 23 = .ok (.iload_n 1, 1) := by decide +kernel
theorem dX8_edgesAt_24 : decode cX8_edgesAt 24 = .ok (.invokestatic 104, 3) := by decide +kernel
theorem dX8_edgesAt_27 : decode cX8_edgesAt 27 = .ok (.ifCond .ne 61, 3) := by decide +kernel
theorem dX8_edgesAt_30 : decode cX8_edgesAt 30 = .ok (.aload_n 0, 1) := by decide +kernel
theorem dX8_edgesAt_31 : decode cX8_edgesAt 31 = .ok (.getfield 7, 3) := by decide +kernel
theorem dX8_edgesAt_34 : decode cX8_edgesAt 34 = .ok (.iload_n 1, 1) := by decide +kernel
theorem dX8_edgesAt_35 : decode cX8_edgesAt 35 = .ok (.iload 4, 2) := by decide +kernel
theorem dX8_edgesAt_37 : decode cX8_edgesAt 37 = .ok (.iload_n 2, 1) := by decide +kernel
theorem dX8_edgesAt_38 : decode cX8_edgesAt 38 = .ok (.invokestatic 85, 3) := by decide +kernel
theorem dX8_edgesAt_41 : decode cX8_edgesAt 41 = .ok (.aload_n 0, 1) := by decide +kernel
theorem dX8_edgesAt_42 : decode cX8_edgesAt 42 = .ok (.getfield 7, 3) := by decide +kernel
theorem dX8_edgesAt_45 : decode cX8_edgesAt 45 = .ok (.iload_n 1, 1) := by decide +kernel
theorem dX8_edgesAt_46 : decode cX8_edgesAt 46 = .ok (.iload 4, 2) := by decide +kernel
theorem dX8_edgesAt_48 : decode cX8_edgesAt 48 = .ok (.iconst 1, 1) := by decide +kernel
theorem dX8_edgesAt_49 : decode cX8_edgesAt 49 = .ok (.isub, 1) := by decide +kernel
theorem dX8_edgesAt_50 : decode cX8_edgesAt 50 = .ok (.iload_n 2, 1) := by decide +kernel
theorem dX8_edgesAt_51 : decode cX8_edgesAt 51 = .ok (.invokestatic 85, 3) := by decide +kernel
theorem dX8_edgesAt_54 : decode cX8_edgesAt 54 = .ok (.isub, 1) := by decide +kernel
theorem dX8_edgesAt_55 : decode cX8_edgesAt 55 = .ok (.invokestatic 124, 3) := by decide +kernel
theorem dX8_edgesAt_58 : decode cX8_edgesAt 58 = .ok (.istore 5, 2) := by decide +kernel
theorem dX8_edgesAt_60 : decode cX8_edgesAt 60 = .ok (.iload_n 3, 1) := by decide +kernel
theorem dX8_edgesAt_61 : decode cX8_edgesAt 61 = .ok (.iload 5, 2) := by decide +kernel
theorem dX8_edgesAt_63 : decode cX8_edgesAt 63 = .ok (.aload_n 0, 1) := by decide +kernel
theorem dX8_edgesAt_64 : decode cX8_edgesAt 64 = .ok (.getfield 7, 3) := by decide +kernel
theorem dX8_edgesAt_67 : decode cX8_edgesAt 67 = .ok (.iconst 3, 1) := by decide +kernel
theorem dX8_edgesAt_68 : decode cX8_edgesAt 68 = .ok (.iaload, 1) := by decide +kernel
theorem dX8_edgesAt_69 : decode cX8_edgesAt 69 = .ok (.if_icmp .lt 10, 3) := by decide +kernel
theorem dX8_edgesAt_72 : decode cX8_edgesAt 72 = .ok (.iconst 1, 1) := by decide +kernel
theorem dX8_edgesAt_73 : decode cX8_edgesAt 73 = .ok (.iload 4, 2) := by decide +kernel
theorem dX8_edgesAt_75 : decode cX8_edgesAt 75 = .ok (.ishl, 1) := by decide +kernel
theorem dX8_edgesAt_76 : decode cX8_edgesAt 76 = .ok (.goto 4, 3) := by decide +kernel
theorem dX8_edgesAt_79 : decode cX8_edgesAt 79 = .ok (.iconst 0, 1) := by decide +kernel
theorem dX8_edgesAt_80 : decode cX8_edgesAt 80 = .ok (.ior, 1) := by decide +kernel
theorem dX8_edgesAt_81 : decode cX8_edgesAt 81 = .ok (.istore_n 3, 1) := by decide +kernel
theorem dX8_edgesAt_82 : decode cX8_edgesAt 82 = .ok (.iinc 4 1, 3) := by decide +kernel
theorem dX8_edgesAt_85 : decode cX8_edgesAt 85 = .ok (.goto (-80), 3) := by decide +kernel
theorem dX8_edgesAt_88 : decode cX8_edgesAt 88 = .ok (.iload_n 3, 1) := by decide +kernel
theorem dX8_edgesAt_89 : decode cX8_edgesAt 89 = .ok (.ireturn, 1) := by decide +kernel
theorem dX8_bestWait_0 : decode cX8_bestWait 0 = .ok (.aload_n 0, 1) := by decide +kernel
theorem dX8_bestWait_1 : decode cX8_bestWait 1 = .ok (.iload_n 1, 1) := by decide +kernel
theorem dX8_bestWait_2 : decode cX8_bestWait 2 = .ok (.invokevirtual 97, 3) := by decide +kernel
theorem dX8_bestWait_5 : decode cX8_bestWait 5 = .ok (.ifCond .eq 12, 3) := by decide +kernel
theorem dX8_bestWait_8 : decode cX8_bestWait 8 = .ok (.iload_n 2, 1) := by decide +kernel
theorem dX8_bestWait_9 : decode cX8_bestWait 9 = .ok (.iconst 0, 1) := by decide +kernel
theorem dX8_bestWait_10 : decode cX8_bestWait 10 = .ok (.iconst 1, 1) := by decide +kernel
theorem dX8_bestWait_11 : decode cX8_bestWait 11 = .ok (.invokestatic 36, 3) := by decide +kernel
theorem dX8_bestWait_14 : decode cX8_bestWait 14 = .ok (.ifCond .ne 6, 3) := by decide +kernel
theorem dX8_bestWait_17 : decode cX8_bestWait 17 = .ok (.ldc 44, 2) := by decide +kernel
theorem dX8_bestWait_19 : decode cX8_bestWait 19 = .ok (.ireturn, 1) := by decide +kernel
theorem dX8_bestWait_20 : decode cX8_bestWait 20 = .ok (.iconst 0, 1) := by decide +kernel
theorem dX8_bestWait_21 : decode cX8_bestWait 21 = .ok (.istore_n 3, 1) := by decide +kernel
theorem dX8_bestWait_22 : decode cX8_bestWait 22 = .ok (.iconst 0, 1) := by decide +kernel
theorem dX8_bestWait_23 : decode cX8_bestWait 23 = .ok (.istore 4, 2) := by decide +kernel
theorem dX8_bestWait_25 : decode cX8_bestWait 25 = .ok (.iconst 1, 1) := by decide +kernel
theorem dX8_bestWait_26 : decode cX8_bestWait 26 = .ok (.istore 5, 2) := by decide +kernel
theorem dX8_bestWait_28 : decode cX8_bestWait 28 = .ok (.iload 5, 2) := by decide +kernel
theorem dX8_bestWait_30 : decode cX8_bestWait 30 = .ok (.bipush 41, 2) := by decide +kernel
theorem dX8_bestWait_32 : decode cX8_bestWait 32 = .ok (.if_icmp .ge 121, 3) := by decide +kernel
theorem dX8_bestWait_35 : decode cX8_bestWait 35 = .ok (.aload_n 0, 1) := by decide +kernel
theorem dX8_bestWait_36 : decode cX8_bestWait 36 = .ok (.invokevirtual 136, 3) := by decide +kernel
theorem dX8_bestWait_39 : decode cX8_bestWait 39 = .ok (.iconst 0, 1) := by decide +kernel
theorem dX8_bestWait_40 : decode cX8_bestWait 40 = .ok (.istore 6, 2) := by decide +kernel
theorem dX8_bestWait_42 : decode cX8_bestWait 42 = .ok (.iload 6, 2) := by decide +kernel
theorem dX8_bestWait_44 : decode cX8_bestWait 44 = .ok (.aload_n 0, 1) := by decide +kernel
theorem dX8_bestWait_45 : decode cX8_bestWait 45 = .ok (.getfield 7, 3) := by decide +kernel
theorem dX8_bestWait_48 : decode cX8_bestWait 48 = .ok (.iconst 0, 1) := by decide +kernel
theorem dX8_bestWait_49 : decode cX8_bestWait 49 = .ok (.iaload, 1) := by decide +kernel
theorem dX8_bestWait_50 : decode cX8_bestWait 50 = .ok (.if_icmp .ge 54, 3) := by decide +kernel
theorem dX8_bestWait_53 : decode cX8_bestWait 53 = .ok (.aload_n 0, 1) := by decide +kernel
theorem dX8_bestWait_54 : decode cX8_bestWait 54 = .ok (.iload 6, 2) := by decide +kernel
theorem dX8_bestWait_56 : decode cX8_bestWait 56 = .ok (.aload_n 0, 1) := by decide +kernel
theorem dX8_bestWait_57 : decode cX8_bestWait 57 = .ok (.getfield 7, 3) := by decide +kernel
theorem dX8_bestWait_60 : decode cX8_bestWait 60 = .ok (.bipush 33, 2) := by decide +kernel
theorem dX8_bestWait_62 : decode cX8_bestWait 62 = .ok (.iaload, 1) := by decide +kernel
theorem dX8_bestWait_63 : decode cX8_bestWait 63 = .ok (.iload 5, 2) := by decide +kernel
theorem dX8_bestWait_65 : decode cX8_bestWait 65 = .ok (.iadd, 1) := by decide +kernel
theorem dX8_bestWait_66 : decode cX8_bestWait 66 = .ok (.iload 6, 2) := by decide +kernel
theorem dX8_bestWait_68 : decode cX8_bestWait 68 = .ok (.aload_n 0, 1) := by decide +kernel
theorem dX8_bestWait_69 : decode cX8_bestWait 69 = .ok (.getfield 7, 3) := by decide +kernel
theorem dX8_bestWait_72 : decode cX8_bestWait 72 = .ok (.iconst 2, 1) := by decide +kernel
theorem dX8_bestWait_73 : decode cX8_bestWait 73 = .ok (.iaload, 1) := by decide +kernel
theorem dX8_bestWait_74 : decode cX8_bestWait 74 = .ok (.imul, 1) := by decide +kernel
theorem dX8_bestWait_75 : decode cX8_bestWait 75 = .ok (.iadd, 1) := by decide +kernel
theorem dX8_bestWait_76 : decode cX8_bestWait 76 = .ok (.invokevirtual 161, 3) := by decide +kernel
theorem dX8_bestWait_79 : decode cX8_bestWait 79 = .ok (.istore 7, 2) := by decide +kernel
theorem dX8_bestWait_81 : decode cX8_bestWait 81 = .ok (.aload_n 0, 1) := by decide +kernel
theorem dX8_bestWait_82 : decode cX8_bestWait 82 = .ok (.aload_n 0, 1) := by decide +kernel
theorem dX8_bestWait_83 : decode cX8_bestWait 83 = .ok (.iload_n 1, 1) := by decide +kernel
theorem dX8_bestWait_84 : decode cX8_bestWait 84 = .ok (.iload 6, 2) := by decide +kernel
theorem dX8_bestWait_86 : decode cX8_bestWait 86 = .ok (.invokevirtual 117, 3) := by decide +kernel
theorem dX8_bestWait_89 : decode cX8_bestWait 89 = .ok (.iload 7, 2) := by decide +kernel
theorem dX8_bestWait_91 : decode cX8_bestWait 91 = .ok (.invokestatic 127, 3) := by decide +kernel
theorem dX8_bestWait_94 : decode cX8_bestWait 94 = .ok (.iconst 1, 1) := by decide +kernel
theorem dX8_bestWait_95 : decode cX8_bestWait 95 = .ok (.invokevirtual 142, 3) := by decide +kernel
theorem dX8_bestWait_98 : decode cX8_bestWait 98 = .ok (.iinc 6 1, 3) := by decide +kernel
theorem dX8_bestWait_101 : decode cX8_bestWait 101 = .ok (.goto (-59), 3) := by decide +kernel
theorem dX8_bestWait_104 : decode cX8_bestWait 104 = .ok (.aload_n 0, 1) := by decide +kernel
theorem dX8_bestWait_105 : decode cX8_bestWait 105 = .ok (.invokevirtual 146, 3) := by decide +kernel
theorem dX8_bestWait_108 : decode cX8_bestWait 108 = .ok (.istore 6, 2) := by decide +kernel
theorem dX8_bestWait_110 : decode cX8_bestWait 110 = .ok (.iload 6, 2) := by decide +kernel
theorem dX8_bestWait_112 : decode cX8_bestWait 112 = .ok (.ldc 49, 2) := by decide +kernel
theorem dX8_bestWait_114 : decode cX8_bestWait 114 = .ok (.if_icmp .eq 33, 3) := by decide +kernel
theorem dX8_bestWait_117 : decode cX8_bestWait 117 = .ok (.aload_n 0, 1) := by decide +kernel
theorem dX8_bestWait_118 : decode cX8_bestWait 118 = .ok (.getfield 22, 3) := by decide +kernel
theorem dX8_bestWait_121 : decode cX8_bestWait 121 = .ok (.iload 6, 2) := by decide +kernel
theorem dX8_bestWait_123 : decode cX8_bestWait 123 = .ok (.bipush 8, 2) := by decide +kernel
theorem dX8_bestWait_125 : decode cX8_bestWait 125 = .ok (.iadd, 1) := by decide +kernel
theorem dX8_bestWait_126 : decode cX8_bestWait 126 = .ok (.iaload, 1) := by decide +kernel
theorem dX8_bestWait_127 : decode cX8_bestWait 127 = .ok (.iload 4, 2) := by decide +kernel
theorem dX8_bestWait_129 : decode cX8_bestWait 129 = .ok (.if_icmp .le 18, 3) := by decide +kernel
theorem dX8_bestWait_132 : decode cX8_bestWait 132 = .ok (.iload 5, 2) := by decide +kernel
theorem dX8_bestWait_134 : decode cX8_bestWait 134 = .ok (.istore_n 3, 1) := by decide +kernel
theorem dX8_bestWait_135 : decode cX8_bestWait 135 = .ok (.aload_n 0, 1) := by decide +kernel
theorem dX8_bestWait_136 : decode cX8_bestWait 136 = .ok (.getfield 22, 3) := by decide +kernel
theorem dX8_bestWait_139 : decode cX8_bestWait 139 = .ok (.iload 6, 2) := by decide +kernel
theorem dX8_bestWait_141 : decode cX8_bestWait 141 = .ok (.bipush 8, 2) := by decide +kernel
theorem dX8_bestWait_143 : decode cX8_bestWait 143 = .ok (.iadd, 1) := by decide +kernel
theorem dX8_bestWait_144 : decode cX8_bestWait 144 = .ok (.iaload, 1) := by decide +kernel
theorem dX8_bestWait_145 : decode cX8_bestWait 145 = .ok (.istore 4, 2) := by decide +kernel
theorem dX8_bestWait_147 : decode cX8_bestWait 147 = .ok (.iinc 5 1, 3) := by decide +kernel
theorem dX8_bestWait_150 : decode cX8_bestWait 150 = .ok (.goto (-122), 3) := by decide +kernel
theorem dX8_bestWait_153 : decode cX8_bestWait 153 = .ok (.iload_n 3, 1) := by decide +kernel
theorem dX8_bestWait_154 : decode cX8_bestWait 154 = .ok (.ifCond .ne 8, 3) := by decide +kernel
theorem dX8_bestWait_157 : decode cX8_bestWait 157 = .ok (.ldc 120, 2) := by decide +kernel
theorem dX8_bestWait_159 : decode cX8_bestWait 159 = .ok (.goto 13, 3) := by decide +kernel
theorem dX8_bestWait_162 : decode cX8_bestWait 162 = .ok (.iload_n 2, 1) := by decide +kernel
theorem dX8_bestWait_163 : decode cX8_bestWait 163 = .ok (.ifCond .ne 7, 3) := by decide +kernel
theorem dX8_bestWait_166 : decode cX8_bestWait 166 = .ok (.iload_n 3, 1) := by decide +kernel
theorem dX8_bestWait_167 : decode cX8_bestWait 167 = .ok (.goto 5, 3) := by decide +kernel
theorem dX8_bestWait_170 : decode cX8_bestWait 170 = .ok (.iload 4, 2) := by decide +kernel
theorem dX8_bestWait_172 : decode cX8_bestWait 172 = .ok (.ireturn, 1) := by decide +kernel
theorem dX8_rowFits_0 : decode cX8_rowFits 0 = .ok (.aload_n 0, 1) := by decide +kernel
theorem dX8_rowFits_1 : decode cX8_rowFits 1 = .ok (.iload_n 2, 1) := by decide +kernel
theorem dX8_rowFits_2 : decode cX8_rowFits 2 = .ok (.iconst 0, 1) := by decide +kernel
theorem dX8_rowFits_3 : decode cX8_rowFits 3 = .ok (.invokevirtual 100, 3) := by decide +kernel
theorem dX8_rowFits_6 : decode cX8_rowFits 6 = .ok (.iload_n 3, 1) := by decide +kernel
theorem dX8_rowFits_7 : decode cX8_rowFits 7 = .ok (.aload_n 0, 1) := by decide +kernel
theorem dX8_rowFits_8 : decode cX8_rowFits 8 = .ok (.getfield 7, 3) := by decide +kernel
theorem dX8_rowFits_11 : decode cX8_rowFits 11 = .ok (.iconst 2, 1) := by decide +kernel
theorem dX8_rowFits_12 : decode cX8_rowFits 12 = .ok (.iaload, 1) := by decide +kernel
theorem dX8_rowFits_13 : decode cX8_rowFits 13 = .ok (.imul, 1) := by decide +kernel
theorem dX8_rowFits_14 : decode cX8_rowFits 14 = .ok (.iadd, 1) := by decide +kernel
theorem dX8_rowFits_15 : decode cX8_rowFits 15 = .ok (.istore 4, 2) := by decide +kernel
theorem dX8_rowFits_17 : decode cX8_rowFits 17 = .ok (.iconst 0, 1) := by decide +kernel
theorem dX8_rowFits_18 : decode cX8_rowFits 18 = .ok (.istore 5, 2) := by decide +kernel
theorem dX8_rowFits_20 : decode cX8_rowFits 20 = .ok (.iload 5, 2) := by decide +kernel
theorem dX8_rowFits_22 : decode cX8_rowFits 22 = .ok (.aload_n 0, 1) := by decide +kernel
theorem dX8_rowFits_23 : decode cX8_rowFits 23 = .ok (.getfield 7, 3) := by decide +kernel
theorem dX8_rowFits_26 : decode cX8_rowFits 26 = .ok (.iconst 1, 1) := by decide +kernel
theorem dX8_rowFits_27 : decode cX8_rowFits 27 = .ok (.iaload, 1) := by decide +kernel
theorem dX8_rowFits_28 : decode cX8_rowFits 28 = .ok (.if_icmp .ge 31, 3) := by decide +kernel
theorem dX8_rowFits_31 : decode cX8_rowFits 31 = .ok (.aload_n 1, 1) := by decide +kernel
theorem dX8_rowFits_32 : decode cX8_rowFits 32 = .ok (.iload_n 3, 1) := by decide +kernel
theorem dX8_rowFits_33 : decode cX8_rowFits 33 = .ok (.iload 5, 2) := by decide +kernel
theorem dX8_rowFits_35 : decode cX8_rowFits 35 = .ok (.iload 4, 2) := by decide +kernel
theorem dX8_rowFits_37 : decode cX8_rowFits 37 = .ok (.invokestatic 85, 3) := by decide +kernel
theorem dX8_rowFits_40 : decode cX8_rowFits 40 = .ok (.aload_n 0, 1) := by decide +kernel
theorem dX8_rowFits_41 : decode cX8_rowFits 41 = .ok (.iload_n 2, 1) := by decide +kernel
theorem dX8_rowFits_42 : decode cX8_rowFits 42 = .ok (.iload_n 3, 1) := by decide +kernel
theorem dX8_rowFits_43 : decode cX8_rowFits 43 = .ok (.iload 5, 2) := by decide +kernel
theorem dX8_rowFits_45 : decode cX8_rowFits 45 = .ok (.invokevirtual 110, 3) := by decide +kernel
theorem dX8_rowFits_48 : decode cX8_rowFits 48 = .ok (.if_icmp .eq 5, 3) := by decide +kernel
theorem dX8_rowFits_51 : decode cX8_rowFits 51 = .ok (.iconst 0, 1) := by decide +kernel
theorem dX8_rowFits_52 : decode cX8_rowFits 52 = .ok (.ireturn, 1) := by decide +kernel
theorem dX8_rowFits_53 : decode cX8_rowFits 53 = .ok (.iinc 5 1, 3) := by decide +kernel
theorem dX8_rowFits_56 : decode cX8_rowFits 56 = .ok (.goto (-36), 3) := by decide +kernel
theorem dX8_rowFits_59 : decode cX8_rowFits 59 = .ok (.iconst 1, 1) := by decide +kernel
theorem dX8_rowFits_60 : decode cX8_rowFits 60 = .ok (.ireturn, 1) := by decide +kernel
theorem dX8_allFit_0 : decode cX8_allFit 0 = .ok (.iconst 0, 1) := by decide +kernel
theorem dX8_allFit_1 : decode cX8_allFit 1 = .ok (.istore_n 2, 1) := by decide +kernel
theorem dX8_allFit_2 : decode cX8_allFit 2 = .ok (.iload_n 2, 1) := by decide +kernel
theorem dX8_allFit_3 : decode cX8_allFit 3 = .ok (.aload_n 0, 1) := by decide +kernel
theorem dX8_allFit_4 : decode cX8_allFit 4 = .ok (.getfield 7, 3) := by decide +kernel
theorem dX8_allFit_7 : decode cX8_allFit 7 = .ok (.bipush 36, 2) := by decide +kernel
theorem dX8_allFit_9 : decode cX8_allFit 9 = .ok (.iaload, 1) := by decide +kernel
theorem dX8_allFit_10 : decode cX8_allFit 10 = .ok (.if_icmp .ge 48, 3) := by decide +kernel
theorem dX8_allFit_13 : decode cX8_allFit 13 = .ok (.iconst 0, 1) := by decide +kernel
theorem dX8_allFit_14 : decode cX8_allFit 14 = .ok (.istore_n 3, 1) := by decide +kernel
theorem dX8_allFit_15 : decode cX8_allFit 15 = .ok (.iload_n 3, 1) := by decide +kernel
theorem dX8_allFit_16 : decode cX8_allFit 16 = .ok (.aload_n 0, 1) := by decide +kernel
theorem dX8_allFit_17 : decode cX8_allFit 17 = .ok (.getfield 7, 3) := by decide +kernel
theorem dX8_allFit_20 : decode cX8_allFit 20 = .ok (.iconst 0, 1) := by decide +kernel
theorem dX8_allFit_21 : decode cX8_allFit 21 = .ok (.iaload, 1) := by decide +kernel
theorem dX8_allFit_22 : decode cX8_allFit 22 = .ok (.if_icmp .ge 30, 3) := by decide +kernel
theorem dX8_allFit_25 : decode cX8_allFit 25 = .ok (.aload_n 0, 1) := by decide +kernel
theorem dX8_allFit_26 : decode cX8_allFit 26 = .ok (.iload_n 2, 1) := by decide +kernel
theorem dX8_allFit_27 : decode cX8_allFit 27 = .ok (.iload_n 3, 1) := by decide +kernel
theorem dX8_allFit_28 : decode cX8_allFit 28 = .ok (.invokevirtual 107, 3) := by decide +kernel
theorem dX8_allFit_31 : decode cX8_allFit 31 = .ok (.ifCond .eq 15, 3) := by decide +kernel
theorem dX8_allFit_34 : decode cX8_allFit 34 = .ok (.aload_n 0, 1) := by decide +kernel
theorem dX8_allFit_35 : decode cX8_allFit 35 = .ok (.aload_n 1, 1) := by decide +kernel
theorem dX8_allFit_36 : decode cX8_allFit 36 = .ok (.iload_n 2, 1) := by decide +kernel
theorem dX8_allFit_37 : decode cX8_allFit 37 = .ok (.iload_n 3, 1) := by decide +kernel
theorem dX8_allFit_38 : decode cX8_allFit 38 = .ok (.invokevirtual 164, 3) := by decide +kernel
theorem dX8_allFit_41 : decode cX8_allFit 41 = .ok (.ifCond .ne 5, 3) := by decide +kernel
theorem dX8_allFit_44 : decode cX8_allFit 44 = .ok (.iconst 0, 1) := by decide +kernel
theorem dX8_allFit_45 : decode cX8_allFit 45 = .ok (.ireturn, 1) := by decide +kernel
theorem dX8_allFit_46 : decode cX8_allFit 46 = .ok (.iinc 3 1, 3) := by decide +kernel
theorem dX8_allFit_49 : decode cX8_allFit 49 = .ok (.goto (-34), 3) := by decide +kernel
theorem dX8_allFit_52 : decode cX8_allFit 52 = .ok (.iinc 2 1, 3) := by decide +kernel
theorem dX8_allFit_55 : decode cX8_allFit 55 = .ok (.goto (-53), 3) := by decide +kernel
theorem dX8_allFit_58 : decode cX8_allFit 58 = .ok (.iconst 1, 1) := by decide +kernel
theorem dX8_allFit_59 : decode cX8_allFit 59 = .ok (.ireturn, 1) := by decide +kernel
theorem dX8_tries_0 : decode cX8_tries 0 = .ok (.aload_n 0, 1) := by decide +kernel
theorem dX8_tries_1 : decode cX8_tries 1 = .ok (.getfield 7, 3) := by decide +kernel
theorem dX8_tries_4 : decode cX8_tries 4 = .ok (.iconst 0, 1) := by decide +kernel
theorem dX8_tries_5 : decode cX8_tries 5 = .ok (.aload_n 0, 1) := by decide +kernel
theorem dX8_tries_6 : decode cX8_tries 6 = .ok (.getfield 16, 3) := by decide +kernel
theorem dX8_tries_9 : decode cX8_tries 9 = .ok (.iconst 0, 1) := by decide +kernel
theorem dX8_tries_10 : decode cX8_tries 10 = .ok (.invokestatic 32, 3) := by decide +kernel
theorem dX8_tries_13 : decode cX8_tries 13 = .ok (.aload_n 0, 1) := by decide +kernel
theorem dX8_tries_14 : decode cX8_tries 14 = .ok (.iconst 0, 1) := by decide +kernel
theorem dX8_tries_15 : decode cX8_tries 15 = .ok (.putfield 168, 3) := by decide +kernel
theorem dX8_tries_18 : decode cX8_tries 18 = .ok (.bipush 9, 2) := by decide +kernel
theorem dX8_tries_20 : decode cX8_tries 20 = .ok (.bipush 6, 2) := by decide +kernel
theorem dX8_tries_22 : decode cX8_tries 22 = .ok (.iload_n 1, 1) := by decide +kernel
theorem dX8_tries_23 : decode cX8_tries 23 = .ok (.imul, 1) := by decide +kernel
theorem dX8_tries_24 : decode cX8_tries 24 = .ok (.iadd, 1) := by decide +kernel
theorem dX8_tries_25 : decode cX8_tries 25 = .ok (.istore_n 2, 1) := by decide +kernel
theorem dX8_tries_26 : decode cX8_tries 26 = .ok (.sipush (-1000), 3) := by decide +kernel
theorem dX8_tries_29 : decode cX8_tries 29 = .ok (.istore_n 3, 1) := by decide +kernel
theorem dX8_tries_30 : decode cX8_tries 30 = .ok (.iload_n 3, 1) := by decide +kernel
theorem dX8_tries_31 : decode cX8_tries 31 = .ok (.sipush 2401, 3) := by decide +kernel
theorem dX8_tries_34 : decode cX8_tries 34 = .ok (.if_icmp .ge 119, 3) := by decide +kernel
theorem dX8_tries_37 : decode cX8_tries 37 = .ok (.bipush (-100), 2) := by decide +kernel
theorem dX8_tries_39 : decode cX8_tries 39 = .ok (.istore 4, 2) := by decide +kernel
theorem dX8_tries_41 : decode cX8_tries 41 = .ok (.iload 4, 2) := by decide +kernel
theorem dX8_tries_43 : decode cX8_tries 43 = .ok (.bipush 101, 2) := by decide +kernel
theorem dX8_tries_45 : decode cX8_tries 45 = .ok (.if_icmp .ge 102, 3) := by decide +kernel
theorem dX8_tries_48 : decode cX8_tries 48 = .ok (.aload_n 0, 1) := by decide +kernel
theorem dX8_tries_49 : decode cX8_tries 49 = .ok (.getfield 16, 3) := by decide +kernel
theorem dX8_tries_52 : decode cX8_tries 52 = .ok (.iload_n 2, 1) := by decide +kernel
theorem dX8_tries_53 : decode cX8_tries 53 = .ok (.iconst 2, 1) := by decide +kernel
theorem dX8_tries_54 : decode cX8_tries 54 = .ok (.iadd, 1) := by decide +kernel
theorem dX8_tries_55 : decode cX8_tries 55 = .ok (.iload_n 3, 1) := by decide +kernel
theorem dX8_tries_56 : decode cX8_tries 56 = .ok (.iastore, 1) := by decide +kernel
theorem dX8_tries_57 : decode cX8_tries 57 = .ok (.aload_n 0, 1) := by decide +kernel
theorem dX8_tries_58 : decode cX8_tries 58 = .ok (.getfield 16, 3) := by decide +kernel
theorem dX8_tries_61 : decode cX8_tries 61 = .ok (.iload_n 2, 1) := by decide +kernel
theorem dX8_tries_62 : decode cX8_tries 62 = .ok (.iconst 3, 1) := by decide +kernel
theorem dX8_tries_63 : decode cX8_tries 63 = .ok (.iadd, 1) := by decide +kernel
theorem dX8_tries_64 : decode cX8_tries 64 = .ok (.iload 4, 2) := by decide +kernel
theorem dX8_tries_66 : decode cX8_tries 66 = .ok (.iastore, 1) := by decide +kernel
theorem dX8_tries_67 : decode cX8_tries 67 = .ok (.aload_n 0, 1) := by decide +kernel
theorem dX8_tries_68 : decode cX8_tries 68 = .ok (.aload_n 0, 1) := by decide +kernel
theorem dX8_tries_69 : decode cX8_tries 69 = .ok (.getfield 16, 3) := by decide +kernel
theorem dX8_tries_72 : decode cX8_tries 72 = .ok (.invokevirtual 171, 3) := by decide +kernel
theorem dX8_tries_75 : decode cX8_tries 75 = .ok (.ifCond .ne 6, 3) := by decide +kernel
theorem dX8_tries_78 : decode cX8_tries 78 = .ok (.goto 63, 3) := by decide +kernel
theorem dX8_tries_81 : decode cX8_tries 81 = .ok (.aload_n 0, 1) := by decide +kernel
theorem dX8_tries_82 : decode cX8_tries 82 = .ok (.aload_n 0, 1) := by decide +kernel
theorem dX8_tries_83 : decode cX8_tries 83 = .ok (.getfield 168, 3) := by decide +kernel
theorem dX8_tries_86 : decode cX8_tries 86 = .ok (.ifCond .ne 7, 3) := by decide +kernel
theorem dX8_tries_89 : decode cX8_tries 89 = .ok (.iload_n 3, 1) := by decide +kernel
theorem dX8_tries_90 : decode cX8_tries 90 = .ok (.goto 7, 3) := by decide +kernel
theorem dX8_tries_93 : decode cX8_tries 93 = .ok (.aload_n 0, 1) := by decide +kernel
theorem dX8_tries_94 : decode cX8_tries 94 = .ok (.getfield 175, 3) := by decide +kernel
theorem dX8_tries_97 : decode cX8_tries 97 = .ok (.putfield 175, 3) := by decide +kernel
theorem dX8_tries_100 : decode cX8_tries 100 = .ok (.aload_n 0, 1) := by decide +kernel
theorem dX8_tries_101 : decode cX8_tries 101 = .ok (.aload_n 0, 1) := by decide +kernel
theorem dX8_tries_102 : decode cX8_tries 102 = .ok (.getfield 168, 3) := by decide +kernel
theorem dX8_tries_105 : decode cX8_tries 105 = .ok (.ifCond .ne 8, 3) := by decide +kernel
theorem dX8_tries_108 : decode cX8_tries 108 = .ok (.iload 4, 2) := by decide +kernel
theorem dX8_tries_110 : decode cX8_tries 110 = .ok (.goto 7, 3) := by decide +kernel
theorem dX8_tries_113 : decode cX8_tries 113 = .ok (.aload_n 0, 1) := by decide +kernel
theorem dX8_tries_114 : decode cX8_tries 114 = .ok (.getfield 178, 3) := by decide +kernel
theorem dX8_tries_117 : decode cX8_tries 117 = .ok (.putfield 178, 3) := by decide +kernel
theorem dX8_tries_120 : decode cX8_tries 120 = .ok (.aload_n 0, 1) := by decide +kernel
theorem dX8_tries_121 : decode cX8_tries 121 = .ok (.iload_n 3, 1) := by decide +kernel
theorem dX8_tries_122 : decode cX8_tries 122 = .ok (.putfield 181, 3) := by decide +kernel
theorem dX8_tries_125 : decode cX8_tries 125 = .ok (.aload_n 0, 1) := by decide +kernel
theorem dX8_tries_126 : decode cX8_tries 126 = .ok (.iload 4, 2) := by decide +kernel
theorem dX8_tries_128 : decode cX8_tries 128 = .ok (.putfield 184, 3) := by decide +kernel
theorem dX8_tries_131 : decode cX8_tries 131 = .ok (.aload_n 0, 1) := by decide +kernel
theorem dX8_tries_132 : decode cX8_tries 132 = .ok (.dup, 1) := by decide +kernel
theorem dX8_tries_133 : decode cX8_tries 133 = .ok (.getfield 168, 3) := by decide +kernel
theorem dX8_tries_136 : decode cX8_tries 136 = .ok (.iconst 1, 1) := by decide +kernel
theorem dX8_tries_137 : decode cX8_tries 137 = .ok (.iadd, 1) := by decide +kernel
theorem dX8_tries_138 : decode cX8_tries 138 = .ok (.putfield 168, 3) := by decide +kernel
theorem dX8_tries_141 : decode cX8_tries 141 = .ok (.iinc 4 10, 3) := by decide +kernel
theorem dX8_tries_144 : decode cX8_tries 144 = .ok (.goto (-103), 3) := by decide +kernel
theorem dX8_tries_147 : decode cX8_tries 147 = .ok (.iinc 3 100, 3) := by decide +kernel
theorem dX8_tries_150 : decode cX8_tries 150 = .ok (.goto (-120), 3) := by decide +kernel
theorem dX8_tries_153 : decode cX8_tries 153 = .ok (.return_, 1) := by decide +kernel
theorem dX8_motions_0 : decode cX8_motions 0 = .ok (.aload_n 0, 1) := by decide +kernel
theorem dX8_motions_1 : decode cX8_motions 1 = .ok (.iload_n 1, 1) := by decide +kernel
theorem dX8_motions_2 : decode cX8_motions 2 = .ok (.invokevirtual 59, 3) := by decide +kernel
theorem dX8_motions_5 : decode cX8_motions 5 = .ok (.ifCond .eq 12, 3) := by decide +kernel
theorem dX8_motions_8 : decode cX8_motions 8 = .ok (.iload_n 2, 1) := by decide +kernel
theorem dX8_motions_9 : decode cX8_motions 9 = .ok (.iconst 0, 1) := by decide +kernel
theorem dX8_motions_10 : decode cX8_motions 10 = .ok (.iconst 4, 1) := by decide +kernel
theorem dX8_motions_11 : decode cX8_motions 11 = .ok (.invokestatic 36, 3) := by decide +kernel
theorem dX8_motions_14 : decode cX8_motions 14 = .ok (.ifCond .ne 6, 3) := by decide +kernel
theorem dX8_motions_17 : decode cX8_motions 17 = .ok (.ldc 44, 2) := by decide +kernel
theorem dX8_motions_19 : decode cX8_motions 19 = .ok (.ireturn, 1) := by decide +kernel
theorem dX8_motions_20 : decode cX8_motions 20 = .ok (.aload_n 0, 1) := by decide +kernel
theorem dX8_motions_21 : decode cX8_motions 21 = .ok (.iload_n 1, 1) := by decide +kernel
theorem dX8_motions_22 : decode cX8_motions 22 = .ok (.invokevirtual 187, 3) := by decide +kernel
theorem dX8_motions_25 : decode cX8_motions 25 = .ok (.iload_n 2, 1) := by decide +kernel
theorem dX8_motions_26 : decode cX8_motions 26 = .ok (.ifCond .le 13, 3) := by decide +kernel
theorem dX8_motions_29 : decode cX8_motions 29 = .ok (.aload_n 0, 1) := by decide +kernel
theorem dX8_motions_30 : decode cX8_motions 30 = .ok (.getfield 168, 3) := by decide +kernel
theorem dX8_motions_33 : decode cX8_motions 33 = .ok (.ifCond .ne 6, 3) := by decide +kernel
theorem dX8_motions_36 : decode cX8_motions 36 = .ok (.ldc 120, 2) := by decide +kernel
theorem dX8_motions_38 : decode cX8_motions 38 = .ok (.ireturn, 1) := by decide +kernel
theorem dX8_motions_39 : decode cX8_motions 39 = .ok (.iload_n 2, 1) := by decide +kernel
theorem dX8_motions_40 : decode cX8_motions 40 = .ok (.tableswitch 52 0 3 #[32, 37, 42, 47], 32) := by decide +kernel
theorem dX8_motions_72 : decode cX8_motions 72 = .ok (.aload_n 0, 1) := by decide +kernel
theorem dX8_motions_73 : decode cX8_motions 73 = .ok (.getfield 168, 3) := by decide +kernel
theorem dX8_motions_76 : decode cX8_motions 76 = .ok (.ireturn, 1) := by decide +kernel
theorem dX8_motions_77 : decode cX8_motions 77 = .ok (.aload_n 0, 1) := by decide +kernel
theorem dX8_motions_78 : decode cX8_motions 78 = .ok (.getfield 175, 3) := by decide +kernel
theorem dX8_motions_81 : decode cX8_motions 81 = .ok (.ireturn, 1) := by decide +kernel
theorem dX8_motions_82 : decode cX8_motions 82 = .ok (.aload_n 0, 1) := by decide +kernel
theorem dX8_motions_83 : decode cX8_motions 83 = .ok (.getfield 178, 3) := by decide +kernel
theorem dX8_motions_86 : decode cX8_motions 86 = .ok (.ireturn, 1) := by decide +kernel
theorem dX8_motions_87 : decode cX8_motions 87 = .ok (.aload_n 0, 1) := by decide +kernel
theorem dX8_motions_88 : decode cX8_motions 88 = .ok (.getfield 181, 3) := by decide +kernel
theorem dX8_motions_91 : decode cX8_motions 91 = .ok (.ireturn, 1) := by decide +kernel
theorem dX8_motions_92 : decode cX8_motions 92 = .ok (.aload_n 0, 1) := by decide +kernel
theorem dX8_motions_93 : decode cX8_motions 93 = .ok (.getfield 184, 3) := by decide +kernel
theorem dX8_motions_96 : decode cX8_motions 96 = .ok (.ireturn, 1) := by decide +kernel
theorem dX8_periods_0 : decode cX8_periods 0 = .ok (.aload_n 0, 1) := by decide +kernel
theorem dX8_periods_1 : decode cX8_periods 1 = .ok (.getfield 7, 3) := by decide +kernel
theorem dX8_periods_4 : decode cX8_periods 4 = .ok (.iconst 0, 1) := by decide +kernel
theorem dX8_periods_5 : decode cX8_periods 5 = .ok (.aload_n 0, 1) := by decide +kernel
theorem dX8_periods_6 : decode cX8_periods 6 = .ok (.getfield 16, 3) := by decide +kernel
theorem dX8_periods_9 : decode cX8_periods 9 = .ok (.iconst 0, 1) := by decide +kernel
theorem dX8_periods_10 : decode cX8_periods 10 = .ok (.invokestatic 32, 3) := by decide +kernel
theorem dX8_periods_13 : decode cX8_periods 13 = .ok (.iconst 0, 1) := by decide +kernel
theorem dX8_periods_14 : decode cX8_periods 14 = .ok (.istore_n 1, 1) := by decide +kernel
theorem dX8_periods_15 : decode cX8_periods 15 = .ok (.iconst 0, 1) := by decide +kernel
theorem dX8_periods_16 : decode cX8_periods 16 = .ok (.istore_n 2, 1) := by decide +kernel
theorem dX8_periods_17 : decode cX8_periods 17 = .ok (.iload_n 2, 1) := by decide +kernel
theorem dX8_periods_18 : decode cX8_periods 18 = .ok (.bipush 21, 2) := by decide +kernel
theorem dX8_periods_20 : decode cX8_periods 20 = .ok (.if_icmp .ge 37, 3) := by decide +kernel
theorem dX8_periods_23 : decode cX8_periods 23 = .ok (.aload_n 0, 1) := by decide +kernel
theorem dX8_periods_24 : decode cX8_periods 24 = .ok (.getfield 16, 3) := by decide +kernel
theorem dX8_periods_27 : decode cX8_periods 27 = .ok (.iconst 5, 1) := by decide +kernel
theorem dX8_periods_28 : decode cX8_periods 28 = .ok (.iload_n 2, 1) := by decide +kernel
theorem dX8_periods_29 : decode cX8_periods 29 = .ok (.iastore, 1) := by decide +kernel
theorem dX8_periods_30 : decode cX8_periods 30 = .ok (.iload_n 1, 1) := by decide +kernel
theorem dX8_periods_31 : decode cX8_periods 31 = .ok (.aload_n 0, 1) := by decide +kernel
theorem dX8_periods_32 : decode cX8_periods 32 = .ok (.aload_n 0, 1) := by decide +kernel
theorem dX8_periods_33 : decode cX8_periods 33 = .ok (.getfield 16, 3) := by decide +kernel
theorem dX8_periods_36 : decode cX8_periods 36 = .ok (.invokevirtual 171, 3) := by decide +kernel
theorem dX8_periods_39 : decode cX8_periods 39 = .ok (.ifCond .eq 9, 3) := by decide +kernel
theorem dX8_periods_42 : decode cX8_periods 42 = .ok (.iconst 1, 1) := by decide +kernel
theorem dX8_periods_43 : decode cX8_periods 43 = .ok (.iload_n 2, 1) := by decide +kernel
theorem dX8_periods_44 : decode cX8_periods 44 = .ok (.ishl, 1) := by decide +kernel
theorem dX8_periods_45 : decode cX8_periods 45 = .ok (.goto 4, 3) := by decide +kernel
theorem dX8_periods_48 : decode cX8_periods 48 = .ok (.iconst 0, 1) := by decide +kernel
theorem dX8_periods_49 : decode cX8_periods 49 = .ok (.ior, 1) := by decide +kernel
theorem dX8_periods_50 : decode cX8_periods 50 = .ok (.istore_n 1, 1) := by decide +kernel
theorem dX8_periods_51 : decode cX8_periods 51 = .ok (.iinc 2 1, 3) := by decide +kernel
theorem dX8_periods_54 : decode cX8_periods 54 = .ok (.goto (-37), 3) := by decide +kernel
theorem dX8_periods_57 : decode cX8_periods 57 = .ok (.iload_n 1, 1) := by decide +kernel
theorem dX8_periods_58 : decode cX8_periods 58 = .ok (.ireturn, 1) := by decide +kernel
theorem dX8_fitting_0 : decode cX8_fitting 0 = .ok (.aload_n 0, 1) := by decide +kernel
theorem dX8_fitting_1 : decode cX8_fitting 1 = .ok (.iload_n 1, 1) := by decide +kernel
theorem dX8_fitting_2 : decode cX8_fitting 2 = .ok (.invokevirtual 97, 3) := by decide +kernel
theorem dX8_fitting_5 : decode cX8_fitting 5 = .ok (.ifCond .ne 6, 3) := by decide +kernel
theorem dX8_fitting_8 : decode cX8_fitting 8 = .ok (.ldc 44, 2) := by decide +kernel
theorem dX8_fitting_10 : decode cX8_fitting 10 = .ok (.ireturn, 1) := by decide +kernel
theorem dX8_fitting_11 : decode cX8_fitting 11 = .ok (.iconst 0, 1) := by decide +kernel
theorem dX8_fitting_12 : decode cX8_fitting 12 = .ok (.istore_n 2, 1) := by decide +kernel
theorem dX8_fitting_13 : decode cX8_fitting 13 = .ok (.iconst 0, 1) := by decide +kernel
theorem dX8_fitting_14 : decode cX8_fitting 14 = .ok (.istore_n 3, 1) := by decide +kernel
theorem dX8_fitting_15 : decode cX8_fitting 15 = .ok (.iload_n 3, 1) := by decide +kernel
theorem dX8_fitting_16 : decode cX8_fitting 16 = .ok (.aload_n 0, 1) := by decide +kernel
theorem dX8_fitting_17 : decode cX8_fitting 17 = .ok (.getfield 7, 3) := by decide +kernel
theorem dX8_fitting_20 : decode cX8_fitting 20 = .ok (.iconst 0, 1) := by decide +kernel
theorem dX8_fitting_21 : decode cX8_fitting 21 = .ok (.iaload, 1) := by decide +kernel
theorem dX8_fitting_22 : decode cX8_fitting 22 = .ok (.if_icmp .ge 41, 3) := by decide +kernel
theorem dX8_fitting_25 : decode cX8_fitting 25 = .ok (.iload_n 2, 1) := by decide +kernel
theorem dX8_fitting_26 : decode cX8_fitting 26 = .ok (.aload_n 0, 1) := by decide +kernel
theorem dX8_fitting_27 : decode cX8_fitting 27 = .ok (.iload_n 1, 1) := by decide +kernel
theorem dX8_fitting_28 : decode cX8_fitting 28 = .ok (.iload_n 3, 1) := by decide +kernel
theorem dX8_fitting_29 : decode cX8_fitting 29 = .ok (.invokevirtual 107, 3) := by decide +kernel
theorem dX8_fitting_32 : decode cX8_fitting 32 = .ok (.ifCond .eq 22, 3) := by decide +kernel
theorem dX8_fitting_35 : decode cX8_fitting 35 = .ok (.aload_n 0, 1) := by decide +kernel
theorem dX8_fitting_36 : decode cX8_fitting 36 = .ok (.aload_n 0, 1) := by decide +kernel
theorem dX8_fitting_37 : decode cX8_fitting 37 = .ok (.getfield 7, 3) := by decide +kernel
theorem dX8_fitting_40 : decode cX8_fitting 40 = .ok (.iload_n 1, 1) := by decide +kernel
theorem dX8_fitting_41 : decode cX8_fitting 41 = .ok (.iload_n 3, 1) := by decide +kernel
theorem dX8_fitting_42 : decode cX8_fitting 42 = .ok (.invokevirtual 164, 3) := by decide +kernel
theorem dX8_fitting_45 : decode cX8_fitting 45 = .ok (.ifCond .eq 9, 3) := by decide +kernel
theorem dX8_fitting_48 : decode cX8_fitting 48 = .ok (.iconst 1, 1) := by decide +kernel
theorem dX8_fitting_49 : decode cX8_fitting 49 = .ok (.iload_n 3, 1) := by decide +kernel
theorem dX8_fitting_50 : decode cX8_fitting 50 = .ok (.ishl, 1) := by decide +kernel
theorem dX8_fitting_51 : decode cX8_fitting 51 = .ok (.goto 4, 3) := by decide +kernel
theorem dX8_fitting_54 : decode cX8_fitting 54 = .ok (.iconst 0, 1) := by decide +kernel
theorem dX8_fitting_55 : decode cX8_fitting 55 = .ok (.ior, 1) := by decide +kernel
theorem dX8_fitting_56 : decode cX8_fitting 56 = .ok (.istore_n 2, 1) := by decide +kernel
theorem dX8_fitting_57 : decode cX8_fitting 57 = .ok (.iinc 3 1, 3) := by decide +kernel
theorem dX8_fitting_60 : decode cX8_fitting 60 = .ok (.goto (-45), 3) := by decide +kernel
theorem dX8_fitting_63 : decode cX8_fitting 63 = .ok (.iload_n 2, 1) := by decide +kernel
theorem dX8_fitting_64 : decode cX8_fitting 64 = .ok (.ireturn, 1) := by decide +kernel
theorem dX8_count_0 : decode cX8_count 0 = .ok (.iload_n 1, 1) := by decide +kernel
theorem dX8_count_1 : decode cX8_count 1 = .ok (.tableswitch 123 0 7 #[47, 55, 63, 71, 82, 90, 113, 118], 47) := by decide +kernel
theorem dX8_count_48 : decode cX8_count 48 = .ok (.aload_n 0, 1) := by decide +kernel
theorem dX8_count_49 : decode cX8_count 49 = .ok (.getfield 7, 3) := by decide +kernel
theorem dX8_count_52 : decode cX8_count 52 = .ok (.bipush 8, 2) := by decide +kernel
theorem dX8_count_54 : decode cX8_count 54 = .ok (.iaload, 1) := by decide +kernel
theorem dX8_count_55 : decode cX8_count 55 = .ok (.ireturn, 1) := by decide +kernel
theorem dX8_count_56 : decode cX8_count 56 = .ok (.aload_n 0, 1) := by decide +kernel
theorem dX8_count_57 : decode cX8_count 57 = .ok (.getfield 7, 3) := by decide +kernel
theorem dX8_count_60 : decode cX8_count 60 = .ok (.bipush 36, 2) := by decide +kernel
theorem dX8_count_62 : decode cX8_count 62 = .ok (.iaload, 1) := by decide +kernel
theorem dX8_count_63 : decode cX8_count 63 = .ok (.ireturn, 1) := by decide +kernel
theorem dX8_count_64 : decode cX8_count 64 = .ok (.aload_n 0, 1) := by decide +kernel
theorem dX8_count_65 : decode cX8_count 65 = .ok (.getfield 7, 3) := by decide +kernel
theorem dX8_count_68 : decode cX8_count 68 = .ok (.bipush 33, 2) := by decide +kernel
theorem dX8_count_70 : decode cX8_count 70 = .ok (.iaload, 1) := by decide +kernel
theorem dX8_count_71 : decode cX8_count 71 = .ok (.ireturn, 1) := by decide +kernel
theorem dX8_count_72 : decode cX8_count 72 = .ok (.aload_n 0, 1) := by decide +kernel
theorem dX8_count_73 : decode cX8_count 73 = .ok (.getfield 7, 3) := by decide +kernel
theorem dX8_count_76 : decode cX8_count 76 = .ok (.bipush 34, 2) := by decide +kernel
theorem dX8_count_78 : decode cX8_count 78 = .ok (.iaload, 1) := by decide +kernel
theorem dX8_count_79 : decode cX8_count 79 = .ok (.invokestatic 67, 3) := by decide +kernel
theorem dX8_count_82 : decode cX8_count 82 = .ok (.ireturn, 1) := by decide +kernel
theorem dX8_count_83 : decode cX8_count 83 = .ok (.aload_n 0, 1) := by decide +kernel
theorem dX8_count_84 : decode cX8_count 84 = .ok (.getfield 7, 3) := by decide +kernel
theorem dX8_count_87 : decode cX8_count 87 = .ok (.bipush 35, 2) := by decide +kernel
theorem dX8_count_89 : decode cX8_count 89 = .ok (.iaload, 1) := by decide +kernel
theorem dX8_count_90 : decode cX8_count 90 = .ok (.ireturn, 1) := by decide +kernel
theorem dX8_count_91 : decode cX8_count 91 = .ok (.aload_n 0, 1) := by decide +kernel
theorem dX8_count_92 : decode cX8_count 92 = .ok (.getfield 7, 3) := by decide +kernel
theorem dX8_count_95 : decode cX8_count 95 = .ok (.aload_n 0, 1) := by decide +kernel
theorem dX8_count_96 : decode cX8_count 96 = .ok (.getfield 7, 3) := by decide +kernel
theorem dX8_count_99 : decode cX8_count 99 = .ok (.bipush 33, 2) := by decide +kernel
theorem dX8_count_101 : decode cX8_count 101 = .ok (.iaload, 1) := by decide +kernel
theorem dX8_count_102 : decode cX8_count 102 = .ok (.invokestatic 75, 3) := by decide +kernel
theorem dX8_count_105 : decode cX8_count 105 = .ok (.ifCond .eq 7, 3) := by decide +kernel
theorem dX8_count_108 : decode cX8_count 108 = .ok (.iconst 1, 1) := by decide +kernel
theorem dX8_count_109 : decode cX8_count 109 = .ok (.goto 4, 3) := by decide +kernel
theorem dX8_count_112 : decode cX8_count 112 = .ok (.iconst 0, 1) := by decide +kernel
theorem dX8_count_113 : decode cX8_count 113 = .ok (.ireturn, 1) := by decide +kernel
theorem dX8_count_114 : decode cX8_count 114 = .ok (.aload_n 0, 1) := by decide +kernel
theorem dX8_count_115 : decode cX8_count 115 = .ok (.getfield 28, 3) := by decide +kernel
theorem dX8_count_118 : decode cX8_count 118 = .ok (.ireturn, 1) := by decide +kernel
theorem dX8_count_119 : decode cX8_count 119 = .ok (.aload_n 0, 1) := by decide +kernel
theorem dX8_count_120 : decode cX8_count 120 = .ok (.getfield 191, 3) := by decide +kernel
theorem dX8_count_123 : decode cX8_count 123 = .ok (.ireturn, 1) := by decide +kernel
theorem dX8_count_124 : decode cX8_count 124 = .ok (.iload_n 1, 1) := by decide +kernel
theorem dX8_count_125 : decode cX8_count 125 = .ok (.bipush 10, 2) := by decide +kernel
theorem dX8_count_127 : decode cX8_count 127 = .ok (.bipush 17, 2) := by decide +kernel
theorem dX8_count_129 : decode cX8_count 129 = .ok (.invokestatic 36, 3) := by decide +kernel
theorem dX8_count_132 : decode cX8_count 132 = .ok (.ifCond .eq 15, 3) := by decide +kernel
theorem dX8_count_135 : decode cX8_count 135 = .ok (.aload_n 0, 1) := by decide +kernel
theorem dX8_count_136 : decode cX8_count 136 = .ok (.getfield 7, 3) := by decide +kernel
theorem dX8_count_139 : decode cX8_count 139 = .ok (.iload_n 1, 1) := by decide +kernel
theorem dX8_count_140 : decode cX8_count 140 = .ok (.bipush 10, 2) := by decide +kernel
theorem dX8_count_142 : decode cX8_count 142 = .ok (.isub, 1) := by decide +kernel
theorem dX8_count_143 : decode cX8_count 143 = .ok (.iaload, 1) := by decide +kernel
theorem dX8_count_144 : decode cX8_count 144 = .ok (.goto 5, 3) := by decide +kernel
theorem dX8_count_147 : decode cX8_count 147 = .ok (.ldc 44, 2) := by decide +kernel
theorem dX8_count_149 : decode cX8_count 149 = .ok (.ireturn, 1) := by decide +kernel
theorem dX8_undo_0 : decode cX8_undo 0 = .ok (.aload_n 0, 1) := by decide +kernel
theorem dX8_undo_1 : decode cX8_undo 1 = .ok (.getfield 28, 3) := by decide +kernel
theorem dX8_undo_4 : decode cX8_undo 4 = .ok (.ifCond .ne 6, 3) := by decide +kernel
theorem dX8_undo_7 : decode cX8_undo 7 = .ok (.ldc 45, 2) := by decide +kernel
theorem dX8_undo_9 : decode cX8_undo 9 = .ok (.ireturn, 1) := by decide +kernel
theorem dX8_undo_10 : decode cX8_undo 10 = .ok (.aload_n 0, 1) := by decide +kernel
theorem dX8_undo_11 : decode cX8_undo 11 = .ok (.dup, 1) := by decide +kernel
theorem dX8_undo_12 : decode cX8_undo 12 = .ok (.getfield 28, 3) := by decide +kernel
theorem dX8_undo_15 : decode cX8_undo 15 = .ok (.iconst 1, 1) := by decide +kernel
theorem dX8_undo_16 : decode cX8_undo 16 = .ok (.isub, 1) := by decide +kernel
theorem dX8_undo_17 : decode cX8_undo 17 = .ok (.putfield 28, 3) := by decide +kernel
theorem dX8_undo_20 : decode cX8_undo 20 = .ok (.aload_n 0, 1) := by decide +kernel
theorem dX8_undo_21 : decode cX8_undo 21 = .ok (.getfield 13, 3) := by decide +kernel
theorem dX8_undo_24 : decode cX8_undo 24 = .ok (.sipush 867, 3) := by decide +kernel
theorem dX8_undo_27 : decode cX8_undo 27 = .ok (.aload_n 0, 1) := by decide +kernel
theorem dX8_undo_28 : decode cX8_undo 28 = .ok (.getfield 28, 3) := by decide +kernel
theorem dX8_undo_31 : decode cX8_undo 31 = .ok (.imul, 1) := by decide +kernel
theorem dX8_undo_32 : decode cX8_undo 32 = .ok (.aload_n 0, 1) := by decide +kernel
theorem dX8_undo_33 : decode cX8_undo 33 = .ok (.getfield 7, 3) := by decide +kernel
theorem dX8_undo_36 : decode cX8_undo 36 = .ok (.iconst 0, 1) := by decide +kernel
theorem dX8_undo_37 : decode cX8_undo 37 = .ok (.invokestatic 32, 3) := by decide +kernel
theorem dX8_undo_40 : decode cX8_undo 40 = .ok (.aload_n 0, 1) := by decide +kernel
theorem dX8_undo_41 : decode cX8_undo 41 = .ok (.getfield 28, 3) := by decide +kernel
theorem dX8_undo_44 : decode cX8_undo 44 = .ok (.ireturn, 1) := by decide +kernel
theorem dX8_type_0 : decode cX8_type 0 = .ok (.iload_n 1, 1) := by decide +kernel
theorem dX8_type_1 : decode cX8_type 1 = .ok (.bipush 32, 2) := by decide +kernel
theorem dX8_type_3 : decode cX8_type 3 = .ok (.bipush 126, 2) := by decide +kernel
theorem dX8_type_5 : decode cX8_type 5 = .ok (.invokestatic 36, 3) := by decide +kernel
theorem dX8_type_8 : decode cX8_type 8 = .ok (.ifCond .ne 6, 3) := by decide +kernel
theorem dX8_type_11 : decode cX8_type 11 = .ok (.ldc 44, 2) := by decide +kernel
theorem dX8_type_13 : decode cX8_type 13 = .ok (.ireturn, 1) := by decide +kernel
theorem dX8_type_14 : decode cX8_type 14 = .ok (.aload_n 0, 1) := by decide +kernel
theorem dX8_type_15 : decode cX8_type 15 = .ok (.getfield 191, 3) := by decide +kernel
theorem dX8_type_18 : decode cX8_type 18 = .ok (.bipush 80, 2) := by decide +kernel
theorem dX8_type_20 : decode cX8_type 20 = .ok (.if_icmp .ne 6, 3) := by decide +kernel
theorem dX8_type_23 : decode cX8_type 23 = .ok (.ldc 54, 2) := by decide +kernel
theorem dX8_type_25 : decode cX8_type 25 = .ok (.ireturn, 1) := by decide +kernel
theorem dX8_type_26 : decode cX8_type 26 = .ok (.aload_n 0, 1) := by decide +kernel
theorem dX8_type_27 : decode cX8_type 27 = .ok (.getfield 19, 3) := by decide +kernel
theorem dX8_type_30 : decode cX8_type 30 = .ok (.aload_n 0, 1) := by decide +kernel
theorem dX8_type_31 : decode cX8_type 31 = .ok (.getfield 191, 3) := by decide +kernel
theorem dX8_type_34 : decode cX8_type 34 = .ok (.iload_n 1, 1) := by decide +kernel
theorem dX8_type_35 : decode cX8_type 35 = .ok (.iastore, 1) := by decide +kernel
theorem dX8_type_36 : decode cX8_type 36 = .ok (.aload_n 0, 1) := by decide +kernel
theorem dX8_type_37 : decode cX8_type 37 = .ok (.dup, 1) := by decide +kernel
theorem dX8_type_38 : decode cX8_type 38 = .ok (.getfield 191, 3) := by decide +kernel
theorem dX8_type_41 : decode cX8_type 41 = .ok (.iconst 1, 1) := by decide +kernel
theorem dX8_type_42 : decode cX8_type 42 = .ok (.iadd, 1) := by decide +kernel
theorem dX8_type_43 : decode cX8_type 43 = .ok (.putfield 191, 3) := by decide +kernel
theorem dX8_type_46 : decode cX8_type 46 = .ok (.aload_n 0, 1) := by decide +kernel
theorem dX8_type_47 : decode cX8_type 47 = .ok (.getfield 191, 3) := by decide +kernel
theorem dX8_type_50 : decode cX8_type 50 = .ok (.ireturn, 1) := by decide +kernel
theorem dX8_clearText_0 : decode cX8_clearText 0 = .ok (.aload_n 0, 1) := by decide +kernel
theorem dX8_clearText_1 : decode cX8_clearText 1 = .ok (.getfield 191, 3) := by decide +kernel
theorem dX8_clearText_4 : decode cX8_clearText 4 = .ok (.istore_n 1, 1) := by decide +kernel
theorem dX8_clearText_5 : decode cX8_clearText 5 = .ok (.aload_n 0, 1) := by decide +kernel
theorem dX8_clearText_6 : decode cX8_clearText 6 = .ok (.iconst 0, 1) := by decide +kernel
theorem dX8_clearText_7 : decode cX8_clearText 7 = .ok (.putfield 191, 3) := by decide +kernel
theorem dX8_clearText_10 : decode cX8_clearText 10 = .ok (.iload_n 1, 1) := by decide +kernel
theorem dX8_clearText_11 : decode cX8_clearText 11 = .ok (.ireturn, 1) := by decide +kernel
theorem dX8_look_0 : decode cX8_look 0 = .ok (.aload_n 0, 1) := by decide +kernel
theorem dX8_look_1 : decode cX8_look 1 = .ok (.getfield 194, 3) := by decide +kernel
theorem dX8_look_4 : decode cX8_look 4 = .ok (.aload_n 0, 1) := by decide +kernel
theorem dX8_look_5 : decode cX8_look 5 = .ok (.getfield 191, 3) := by decide +kernel
theorem dX8_look_8 : decode cX8_look 8 = .ok (.if_icmp .ge 15, 3) := by decide +kernel
theorem dX8_look_11 : decode cX8_look 11 = .ok (.aload_n 0, 1) := by decide +kernel
theorem dX8_look_12 : decode cX8_look 12 = .ok (.getfield 19, 3) := by decide +kernel
theorem dX8_look_15 : decode cX8_look 15 = .ok (.aload_n 0, 1) := by decide +kernel
theorem dX8_look_16 : decode cX8_look 16 = .ok (.getfield 194, 3) := by decide +kernel
theorem dX8_look_19 : decode cX8_look 19 = .ok (.iaload, 1) := by decide +kernel
theorem dX8_look_20 : decode cX8_look 20 = .ok (.goto 5, 3) := by decide +kernel
theorem dX8_look_23 : decode cX8_look 23 = .ok (.ldc 49, 2) := by decide +kernel
theorem dX8_look_25 : decode cX8_look 25 = .ok (.ireturn, 1) := by decide +kernel
theorem dX8_sign_0 : decode cX8_sign 0 = .ok (.aload_n 0, 1) := by decide +kernel
theorem dX8_sign_1 : decode cX8_sign 1 = .ok (.getfield 197, 3) := by decide +kernel
theorem dX8_sign_4 : decode cX8_sign 4 = .ok (.ldc 49, 2) := by decide +kernel
theorem dX8_sign_6 : decode cX8_sign 6 = .ok (.if_icmp .ne 24, 3) := by decide +kernel
theorem dX8_sign_9 : decode cX8_sign 9 = .ok (.aload_n 0, 1) := by decide +kernel
theorem dX8_sign_10 : decode cX8_sign 10 = .ok (.invokevirtual 200, 3) := by decide +kernel
theorem dX8_sign_13 : decode cX8_sign 13 = .ok (.iload_n 1, 1) := by decide +kernel
theorem dX8_sign_14 : decode cX8_sign 14 = .ok (.if_icmp .ne 16, 3) := by decide +kernel
theorem dX8_sign_17 : decode cX8_sign 17 = .ok (.aload_n 0, 1) := by decide +kernel
theorem dX8_sign_18 : decode cX8_sign 18 = .ok (.dup, 1) := by decide +kernel
theorem dX8_sign_19 : decode cX8_sign 19 = .ok (.getfield 194, 3) := by decide +kernel
theorem dX8_sign_22 : decode cX8_sign 22 = .ok (.iconst 1, 1) := by decide +kernel
theorem dX8_sign_23 : decode cX8_sign 23 = .ok (.iadd, 1) := by decide +kernel
theorem dX8_sign_24 : decode cX8_sign 24 = .ok (.putfield 194, 3) := by decide +kernel
theorem dX8_sign_27 : decode cX8_sign 27 = .ok (.goto 20, 3) := by decide +kernel
theorem dX8_sign_30 : decode cX8_sign 30 = .ok (.aload_n 0, 1) := by decide +kernel
theorem dX8_sign_31 : decode cX8_sign 31 = .ok (.getfield 197, 3) := by decide +kernel
theorem dX8_sign_34 : decode cX8_sign 34 = .ok (.ldc 49, 2) := by decide +kernel
theorem dX8_sign_36 : decode cX8_sign 36 = .ok (.if_icmp .ne 11, 3) := by decide +kernel
theorem dX8_sign_39 : decode cX8_sign 39 = .ok (.aload_n 0, 1) := by decide +kernel
theorem dX8_sign_40 : decode cX8_sign 40 = .ok (.aload_n 0, 1) := by decide +kernel
theorem dX8_sign_41 : decode cX8_sign 41 = .ok (.getfield 194, 3) := by decide +kernel
theorem dX8_sign_44 : decode cX8_sign 44 = .ok (.putfield 197, 3) := by decide +kernel
theorem dX8_sign_47 : decode cX8_sign 47 = .ok (.return_, 1) := by decide +kernel
theorem dX8_number_0 : decode cX8_number 0 = .ok (.aload_n 0, 1) := by decide +kernel
theorem dX8_number_1 : decode cX8_number 1 = .ok (.getfield 197, 3) := by decide +kernel
theorem dX8_number_4 : decode cX8_number 4 = .ok (.ldc 49, 2) := by decide +kernel
theorem dX8_number_6 : decode cX8_number 6 = .ok (.if_icmp .ne 16, 3) := by decide +kernel
theorem dX8_number_9 : decode cX8_number 9 = .ok (.aload_n 0, 1) := by decide +kernel
theorem dX8_number_10 : decode cX8_number 10 = .ok (.invokevirtual 200, 3) := by decide +kernel
theorem dX8_number_13 : decode cX8_number 13 = .ok (.bipush 45, 2) := by decide +kernel
theorem dX8_number_15 : decode cX8_number 15 = .ok (.if_icmp .ne 7, 3) := by decide +kernel
theorem dX8_number_18 : decode cX8_number 18 = .ok (.iconst 1, 1) := by decide +kernel
theorem dX8_number_19 : decode cX8_number 19 = .ok (.goto 4, 3) := by decide +kernel
theorem dX8_number_22 : decode cX8_number 22 = .ok (.iconst 0, 1) := by decide +kernel
theorem dX8_number_23 : decode cX8_number 23 = .ok (.istore_n 2, 1) := by decide +kernel
theorem dX8_number_24 : decode cX8_number 24 = .ok (.aload_n 0, 1) := by decide +kernel
theorem dX8_number_25 : decode cX8_number 25 = .ok (.dup, 1) := by decide +kernel
theorem dX8_number_26 : decode cX8_number 26 = .ok (.getfield 194, 3) := by decide +kernel
theorem dX8_number_29 : decode cX8_number 29 = .ok (.iload_n 2, 1) := by decide +kernel
theorem dX8_number_30 : decode cX8_number 30 = .ok (.ifCond .eq 7, 3) := by decide +kernel
theorem dX8_number_33 : decode cX8_number 33 = .ok (.iconst 1, 1) := by decide +kernel
theorem dX8_number_34 : decode cX8_number 34 = .ok (.goto 4, 3) := by decide +kernel
theorem dX8_number_37 : decode cX8_number 37 = .ok (.iconst 0, 1) := by decide +kernel
theorem dX8_number_38 : decode cX8_number 38 = .ok (.iadd, 1) := by decide +kernel
theorem dX8_number_39 : decode cX8_number 39 = .ok (.putfield 194, 3) := by decide +kernel
theorem dX8_number_42 : decode cX8_number 42 = .ok (.aload_n 0, 1) := by decide +kernel
theorem dX8_number_43 : decode cX8_number 43 = .ok (.getfield 194, 3) := by decide +kernel
theorem dX8_number_46 : decode cX8_number 46 = .ok (.istore_n 3, 1) := by decide +kernel
theorem dX8_number_47 : decode cX8_number 47 = .ok (.iconst 0, 1) := by decide +kernel
theorem dX8_number_48 : decode cX8_number 48 = .ok (.istore 4, 2) := by decide +kernel
theorem dX8_number_50 : decode cX8_number 50 = .ok (.aload_n 0, 1) := by decide +kernel
theorem dX8_number_51 : decode cX8_number 51 = .ok (.getfield 197, 3) := by decide +kernel
theorem dX8_number_54 : decode cX8_number 54 = .ok (.ldc 49, 2) := by decide +kernel
theorem dX8_number_56 : decode cX8_number 56 = .ok (.if_icmp .ne 55, 3) := by decide +kernel
theorem dX8_number_59 : decode cX8_number 59 = .ok (.aload_n 0, 1) := by decide +kernel
theorem dX8_number_60 : decode cX8_number 60 = .ok (.getfield 194, 3) := by decide +kernel
theorem dX8_number_63 : decode cX8_number 63 = .ok (.iload_n 3, 1) := by decide +kernel
theorem dX8_number_64 : decode cX8_number 64 = .ok (.isub, 1) := by decide +kernel
theorem dX8_number_65 : decode cX8_number 65 = .ok (.iconst 5, 1) := by decide +kernel
theorem dX8_number_66 : decode cX8_number 66 = .ok (.if_icmp .ge 45, 3) := by decide +kernel
theorem dX8_number_69 : decode cX8_number 69 = .ok (.aload_n 0, 1) := by decide +kernel
theorem dX8_number_70 : decode cX8_number 70 = .ok (.invokevirtual 200, 3) := by decide +kernel
theorem dX8_number_73 : decode cX8_number 73 = .ok (.bipush 48, 2) := by decide +kernel
theorem dX8_number_75 : decode cX8_number 75 = .ok (.bipush 57, 2) := by decide +kernel
theorem dX8_number_77 : decode cX8_number 77 = .ok (.invokestatic 36, 3) := by decide +kernel
theorem dX8_number_80 : decode cX8_number 80 = .ok (.ifCond .eq 31, 3) := by decide +kernel
theorem dX8_number_83 : decode cX8_number 83 = .ok (.bipush 10, 2) := by decide +kernel
theorem dX8_number_85 : decode cX8_number 85 = .ok (.iload 4, 2) := by decide +kernel
theorem dX8_number_87 : decode cX8_number 87 = .ok (.imul, 1) := by decide +kernel
theorem dX8_number_88 : decode cX8_number 88 = .ok (.aload_n 0, 1) := by decide +kernel
theorem dX8_number_89 : decode cX8_number 89 = .ok (.invokevirtual 200, 3) := by decide +kernel
theorem dX8_number_92 : decode cX8_number 92 = .ok (.iadd, 1) := by decide +kernel
theorem dX8_number_93 : decode cX8_number 93 = .ok (.bipush 48, 2) := by decide +kernel
theorem dX8_number_95 : decode cX8_number 95 = .ok (.isub, 1) := by decide +kernel
theorem dX8_number_96 : decode cX8_number 96 = .ok (.istore 4, 2) := by decide +kernel
theorem dX8_number_98 : decode cX8_number 98 = .ok (.aload_n 0, 1) := by decide +kernel
theorem dX8_number_99 : decode cX8_number 99 = .ok (.dup, 1) := by decide +kernel
theorem dX8_number_100 : decode cX8_number 100 = .ok (.getfield 194, 3) := by decide +kernel
theorem dX8_number_103 : decode cX8_number 103 = .ok (.iconst 1, 1) := by decide +kernel
theorem dX8_number_104 : decode cX8_number 104 = .ok (.iadd, 1) := by decide +kernel
theorem dX8_number_105 : decode cX8_number 105 = .ok (.putfield 194, 3) := by decide +kernel
theorem dX8_number_108 : decode cX8_number 108 = .ok (.goto (-58), 3) := by decide +kernel
theorem dX8_number_111 : decode cX8_number 111 = .ok (.aload_n 0, 1) := by decide +kernel
theorem dX8_number_112 : decode cX8_number 112 = .ok (.getfield 197, 3) := by decide +kernel
theorem dX8_number_115 : decode cX8_number 115 = .ok (.ldc 49, 2) := by decide +kernel
theorem dX8_number_117 : decode cX8_number 117 = .ok (.if_icmp .ne 19, 3) := by decide +kernel
theorem dX8_number_120 : decode cX8_number 120 = .ok (.aload_n 0, 1) := by decide +kernel
theorem dX8_number_121 : decode cX8_number 121 = .ok (.getfield 194, 3) := by decide +kernel
theorem dX8_number_124 : decode cX8_number 124 = .ok (.iload_n 3, 1) := by decide +kernel
theorem dX8_number_125 : decode cX8_number 125 = .ok (.if_icmp .ne 11, 3) := by decide +kernel
theorem dX8_number_128 : decode cX8_number 128 = .ok (.aload_n 0, 1) := by decide +kernel
theorem dX8_number_129 : decode cX8_number 129 = .ok (.aload_n 0, 1) := by decide +kernel
theorem dX8_number_130 : decode cX8_number 130 = .ok (.getfield 194, 3) := by decide +kernel
theorem dX8_number_133 : decode cX8_number 133 = .ok (.putfield 197, 3) := by decide +kernel
theorem dX8_number_136 : decode cX8_number 136 = .ok (.aload_n 0, 1) := by decide +kernel
theorem dX8_number_137 : decode cX8_number 137 = .ok (.getfield 25, 3) := by decide +kernel
theorem dX8_number_140 : decode cX8_number 140 = .ok (.iload_n 1, 1) := by decide +kernel
theorem dX8_number_141 : decode cX8_number 141 = .ok (.iload_n 2, 1) := by decide +kernel
theorem dX8_number_142 : decode cX8_number 142 = .ok (.ifCond .eq 9, 3) := by decide +kernel
theorem dX8_number_145 : decode cX8_number 145 = .ok (.iload 4, 2) := by decide +kernel
theorem dX8_number_147 : decode cX8_number 147 = .ok (.ineg, 1) := by decide +kernel
theorem dX8_number_148 : decode cX8_number 148 = .ok (.goto 5, 3) := by decide +kernel
theorem dX8_number_151 : decode cX8_number 151 = .ok (.iload 4, 2) := by decide +kernel
theorem dX8_number_153 : decode cX8_number 153 = .ok (.iastore, 1) := by decide +kernel
theorem dX8_number_154 : decode cX8_number 154 = .ok (.return_, 1) := by decide +kernel
theorem dX8_form_0 : decode cX8_form 0 = .ok (.aload_n 0, 1) := by decide +kernel
theorem dX8_form_1 : decode cX8_form 1 = .ok (.ldc 49, 2) := by decide +kernel
theorem dX8_form_3 : decode cX8_form 3 = .ok (.putfield 197, 3) := by decide +kernel
theorem dX8_form_6 : decode cX8_form 6 = .ok (.aload_n 0, 1) := by decide +kernel
theorem dX8_form_7 : decode cX8_form 7 = .ok (.invokevirtual 200, 3) := by decide +kernel
theorem dX8_form_10 : decode cX8_form 10 = .ok (.istore_n 1, 1) := by decide +kernel
theorem dX8_form_11 : decode cX8_form 11 = .ok (.iload_n 1, 1) := by decide +kernel
theorem dX8_form_12 : decode cX8_form 12 = .ok (.bipush 116, 2) := by decide +kernel
theorem dX8_form_14 : decode cX8_form 14 = .ok (.if_icmp .eq 37, 3) := by decide +kernel
theorem dX8_form_17 : decode cX8_form 17 = .ok (.iload_n 1, 1) := by decide +kernel
theorem dX8_form_18 : decode cX8_form 18 = .ok (.bipush 103, 2) := by decide +kernel
theorem dX8_form_20 : decode cX8_form 20 = .ok (.if_icmp .eq 31, 3) := by decide +kernel
theorem dX8_form_23 : decode cX8_form 23 = .ok (.iload_n 1, 1) := by decide +kernel
theorem dX8_form_24 : decode cX8_form 24 = .ok (.bipush 115, 2) := by decide +kernel
theorem dX8_form_26 : decode cX8_form 26 = .ok (.if_icmp .eq 25, 3) := by decide +kernel
theorem dX8_form_29 : decode cX8_form 29 = .ok (.iload_n 1, 1) := by decide +kernel
theorem dX8_form_30 : decode cX8_form 30 = .ok (.bipush 98, 2) := by decide +kernel
theorem dX8_form_32 : decode cX8_form 32 = .ok (.if_icmp .eq 19, 3) := by decide +kernel
theorem dX8_form_35 : decode cX8_form 35 = .ok (.iload_n 1, 1) := by decide +kernel
theorem dX8_form_36 : decode cX8_form 36 = .ok (.bipush 117, 2) := by decide +kernel
theorem dX8_form_38 : decode cX8_form 38 = .ok (.if_icmp .eq 13, 3) := by decide +kernel
theorem dX8_form_41 : decode cX8_form 41 = .ok (.aload_n 0, 1) := by decide +kernel
theorem dX8_form_42 : decode cX8_form 42 = .ok (.aload_n 0, 1) := by decide +kernel
theorem dX8_form_43 : decode cX8_form 43 = .ok (.getfield 194, 3) := by decide +kernel
theorem dX8_form_46 : decode cX8_form 46 = .ok (.putfield 197, 3) := by decide +kernel
theorem dX8_form_49 : decode cX8_form 49 = .ok (.iload_n 1, 1) := by decide +kernel
theorem dX8_form_50 : decode cX8_form 50 = .ok (.ireturn, 1) := by decide +kernel
theorem dX8_form_51 : decode cX8_form 51 = .ok (.aload_n 0, 1) := by decide +kernel
theorem dX8_form_52 : decode cX8_form 52 = .ok (.dup, 1) := by decide +kernel
theorem dX8_form_53 : decode cX8_form 53 = .ok (.getfield 194, 3) := by decide +kernel
theorem dX8_form_56 : decode cX8_form 56 = .ok (.iconst 1, 1) := by decide +kernel
theorem dX8_form_57 : decode cX8_form 57 = .ok (.iadd, 1) := by decide +kernel
theorem dX8_form_58 : decode cX8_form 58 = .ok (.putfield 194, 3) := by decide +kernel
theorem dX8_form_61 : decode cX8_form 61 = .ok (.iload_n 1, 1) := by decide +kernel
theorem dX8_form_62 : decode cX8_form 62 = .ok (.bipush 115, 2) := by decide +kernel
theorem dX8_form_64 : decode cX8_form 64 = .ok (.if_icmp .eq 8, 3) := by decide +kernel
theorem dX8_form_67 : decode cX8_form 67 = .ok (.aload_n 0, 1) := by decide +kernel
theorem dX8_form_68 : decode cX8_form 68 = .ok (.iconst 0, 1) := by decide +kernel
theorem dX8_form_69 : decode cX8_form 69 = .ok (.invokevirtual 203, 3) := by decide +kernel
theorem dX8_form_72 : decode cX8_form 72 = .ok (.iconst 1, 1) := by decide +kernel
theorem dX8_form_73 : decode cX8_form 73 = .ok (.istore_n 2, 1) := by decide +kernel
theorem dX8_form_74 : decode cX8_form 74 = .ok (.iload_n 2, 1) := by decide +kernel
theorem dX8_form_75 : decode cX8_form 75 = .ok (.bipush 6, 2) := by decide +kernel
theorem dX8_form_77 : decode cX8_form 77 = .ok (.if_icmp .ge 26, 3) := by decide +kernel
theorem dX8_form_80 : decode cX8_form 80 = .ok (.iload_n 1, 1) := by decide +kernel
theorem dX8_form_81 : decode cX8_form 81 = .ok (.bipush 116, 2) := by decide +kernel
theorem dX8_form_83 : decode cX8_form 83 = .ok (.if_icmp .ne 20, 3) := by decide +kernel
theorem dX8_form_86 : decode cX8_form 86 = .ok (.aload_n 0, 1) := by decide +kernel
theorem dX8_form_87 : decode cX8_form 87 = .ok (.bipush 44, 2) := by decide +kernel
theorem dX8_form_89 : decode cX8_form 89 = .ok (.invokevirtual 206, 3) := by decide +kernel
theorem dX8_form_92 : decode cX8_form 92 = .ok (.aload_n 0, 1) := by decide +kernel
theorem dX8_form_93 : decode cX8_form 93 = .ok (.iload_n 2, 1) := by decide +kernel
theorem dX8_form_94 : decode cX8_form 94 = .ok (.invokevirtual 203, 3) := by decide +kernel
theorem dX8_form_97 : decode cX8_form 97 = .ok (.iinc 2 1, 3) := by decide +kernel
theorem dX8_form_100 : decode cX8_form 100 = .ok (.goto (-26), 3) := by decide +kernel
theorem dX8_form_103 : decode cX8_form 103 = .ok (.aload_n 0, 1) := by decide +kernel
theorem dX8_form_104 : decode cX8_form 104 = .ok (.bipush 59, 2) := by decide +kernel
theorem dX8_form_106 : decode cX8_form 106 = .ok (.invokevirtual 206, 3) := by decide +kernel
theorem dX8_form_109 : decode cX8_form 109 = .ok (.iload_n 1, 1) := by decide +kernel
theorem dX8_form_110 : decode cX8_form 110 = .ok (.ireturn, 1) := by decide +kernel
theorem dX8_wrongIn_0 : decode cX8_wrongIn 0 = .ok (.iload_n 1, 1) := by decide +kernel
theorem dX8_wrongIn_1 : decode cX8_wrongIn 1 = .ok (.lookupswitch 101 #[(103, 75), (115, 98), (116, 35)], 35) := by decide +kernel
theorem dX8_wrongIn_36 : decode cX8_wrongIn 36 = .ok (.aload_n 0, 1) := by decide +kernel
theorem dX8_wrongIn_37 : decode cX8_wrongIn 37 = .ok (.getfield 25, 3) := by decide +kernel
theorem dX8_wrongIn_40 : decode cX8_wrongIn 40 = .ok (.iconst 0, 1) := by decide +kernel
theorem dX8_wrongIn_41 : decode cX8_wrongIn 41 = .ok (.iaload, 1) := by decide +kernel
theorem dX8_wrongIn_42 : decode cX8_wrongIn 42 = .ok (.aload_n 0, 1) := by decide +kernel
theorem dX8_wrongIn_43 : decode cX8_wrongIn 43 = .ok (.getfield 25, 3) := by decide +kernel
theorem dX8_wrongIn_46 : decode cX8_wrongIn 46 = .ok (.iconst 1, 1) := by decide +kernel
theorem dX8_wrongIn_47 : decode cX8_wrongIn 47 = .ok (.iaload, 1) := by decide +kernel
theorem dX8_wrongIn_48 : decode cX8_wrongIn 48 = .ok (.aload_n 0, 1) := by decide +kernel
theorem dX8_wrongIn_49 : decode cX8_wrongIn 49 = .ok (.getfield 25, 3) := by decide +kernel
theorem dX8_wrongIn_52 : decode cX8_wrongIn 52 = .ok (.iconst 2, 1) := by decide +kernel
theorem dX8_wrongIn_53 : decode cX8_wrongIn 53 = .ok (.iaload, 1) := by decide +kernel
theorem dX8_wrongIn_54 : decode cX8_wrongIn 54 = .ok (.aload_n 0, 1) := by decide +kernel
theorem dX8_wrongIn_55 : decode cX8_wrongIn 55 = .ok (.getfield 25, 3) := by decide +kernel
theorem dX8_wrongIn_58 : decode cX8_wrongIn 58 = .ok (.iconst 3, 1) := by decide +kernel
theorem dX8_wrongIn_59 : decode cX8_wrongIn 59 = .ok (.iaload, 1) := by decide +kernel
theorem dX8_wrongIn_60 : decode cX8_wrongIn 60 = .ok (.aload_n 0, 1) := by decide +kernel
theorem dX8_wrongIn_61 : decode cX8_wrongIn 61 = .ok (.getfield 25, 3) := by decide +kernel
theorem dX8_wrongIn_64 : decode cX8_wrongIn 64 = .ok (.iconst 4, 1) := by decide +kernel
theorem dX8_wrongIn_65 : decode cX8_wrongIn 65 = .ok (.iaload, 1) := by decide +kernel
theorem dX8_wrongIn_66 : decode cX8_wrongIn 66 = .ok (.aload_n 0, 1) := by decide +kernel
theorem dX8_wrongIn_67 : decode cX8_wrongIn 67 = .ok (.getfield 25, 3) := by decide +kernel
theorem dX8_wrongIn_70 : decode cX8_wrongIn 70 = .ok (.iconst 5, 1) := by decide +kernel
theorem dX8_wrongIn_71 : decode cX8_wrongIn 71 = .ok (.iaload, 1) := by decide +kernel
theorem dX8_wrongIn_72 : decode cX8_wrongIn 72 = .ok (.invokestatic 50, 3) := by decide +kernel
theorem dX8_wrongIn_75 : decode cX8_wrongIn 75 = .ok (.ireturn, 1) := by decide +kernel
theorem dX8_wrongIn_76 : decode cX8_wrongIn 76 = .ok (.aload_n 0, 1) := by decide +kernel
theorem dX8_wrongIn_77 : decode cX8_wrongIn 77 = .ok (.getfield 25, 3) := by decide +kernel
theorem dX8_wrongIn_80 : decode cX8_wrongIn 80 = .ok (.iconst 0, 1) := by decide +kernel
theorem dX8_wrongIn_81 : decode cX8_wrongIn 81 = .ok (.iaload, 1) := by decide +kernel
theorem dX8_wrongIn_82 : decode cX8_wrongIn 82 = .ok (.iconst 1, 1) := by decide +kernel
theorem dX8_wrongIn_83 : decode cX8_wrongIn 83 = .ok (.sipush 200, 3) := by decide +kernel
theorem dX8_wrongIn_86 : decode cX8_wrongIn 86 = .ok (.invokestatic 36, 3) := by decide +kernel
theorem dX8_wrongIn_89 : decode cX8_wrongIn 89 = .ok (.ifCond .eq 8, 3) := by decide +kernel
theorem dX8_wrongIn_92 : decode cX8_wrongIn 92 = .ok (.ldc 49, 2) := by decide +kernel
theorem dX8_wrongIn_94 : decode cX8_wrongIn 94 = .ok (.goto 4, 3) := by decide +kernel
theorem dX8_wrongIn_97 : decode cX8_wrongIn 97 = .ok (.iconst 0, 1) := by decide +kernel
theorem dX8_wrongIn_98 : decode cX8_wrongIn 98 = .ok (.ireturn, 1) := by decide +kernel
theorem dX8_wrongIn_99 : decode cX8_wrongIn 99 = .ok (.ldc 49, 2) := by decide +kernel
theorem dX8_wrongIn_101 : decode cX8_wrongIn 101 = .ok (.ireturn, 1) := by decide +kernel
theorem dX8_wrongIn_102 : decode cX8_wrongIn 102 = .ok (.aload_n 0, 1) := by decide +kernel
theorem dX8_wrongIn_103 : decode cX8_wrongIn 103 = .ok (.getfield 25, 3) := by decide +kernel
theorem dX8_wrongIn_106 : decode cX8_wrongIn 106 = .ok (.iconst 0, 1) := by decide +kernel
theorem dX8_wrongIn_107 : decode cX8_wrongIn 107 = .ok (.iaload, 1) := by decide +kernel
theorem dX8_wrongIn_108 : decode cX8_wrongIn 108 = .ok (.iconst 0, 1) := by decide +kernel
theorem dX8_wrongIn_109 : decode cX8_wrongIn 109 = .ok (.bipush 9, 2) := by decide +kernel
theorem dX8_wrongIn_111 : decode cX8_wrongIn 111 = .ok (.invokestatic 36, 3) := by decide +kernel
theorem dX8_wrongIn_114 : decode cX8_wrongIn 114 = .ok (.ifCond .eq 8, 3) := by decide +kernel
theorem dX8_wrongIn_117 : decode cX8_wrongIn 117 = .ok (.ldc 49, 2) := by decide +kernel
theorem dX8_wrongIn_119 : decode cX8_wrongIn 119 = .ok (.goto 4, 3) := by decide +kernel
theorem dX8_wrongIn_122 : decode cX8_wrongIn 122 = .ok (.iconst 0, 1) := by decide +kernel
theorem dX8_wrongIn_123 : decode cX8_wrongIn 123 = .ok (.ireturn, 1) := by decide +kernel
theorem dX8_can_0 : decode cX8_can 0 = .ok (.iload_n 1, 1) := by decide +kernel
theorem dX8_can_1 : decode cX8_can 1 = .ok (.lookupswitch 69 #[(103, 49), (115, 67), (116, 35)], 35) := by decide +kernel
theorem dX8_can_36 : decode cX8_can 36 = .ok (.aload_n 0, 1) := by decide +kernel
theorem dX8_can_37 : decode cX8_can 37 = .ok (.bipush 8, 2) := by decide +kernel
theorem dX8_can_39 : decode cX8_can 39 = .ok (.iaload, 1) := by decide +kernel
theorem dX8_can_40 : decode cX8_can 40 = .ok (.iconst 4, 1) := by decide +kernel
theorem dX8_can_41 : decode cX8_can 41 = .ok (.if_icmp .ge 7, 3) := by decide +kernel
theorem dX8_can_44 : decode cX8_can 44 = .ok (.iconst 1, 1) := by decide +kernel
theorem dX8_can_45 : decode cX8_can 45 = .ok (.goto 4, 3) := by decide +kernel
theorem dX8_can_48 : decode cX8_can 48 = .ok (.iconst 0, 1) := by decide +kernel
theorem dX8_can_49 : decode cX8_can 49 = .ok (.ireturn, 1) := by decide +kernel
theorem dX8_can_50 : decode cX8_can 50 = .ok (.aload_n 0, 1) := by decide +kernel
theorem dX8_can_51 : decode cX8_can 51 = .ok (.bipush 33, 2) := by decide +kernel
theorem dX8_can_53 : decode cX8_can 53 = .ok (.iaload, 1) := by decide +kernel
theorem dX8_can_54 : decode cX8_can 54 = .ok (.iload_n 2, 1) := by decide +kernel
theorem dX8_can_55 : decode cX8_can 55 = .ok (.iadd, 1) := by decide +kernel
theorem dX8_can_56 : decode cX8_can 56 = .ok (.sipush 20000, 3) := by decide +kernel
theorem dX8_can_59 : decode cX8_can 59 = .ok (.if_icmp .gt 7, 3) := by decide +kernel
theorem dX8_can_62 : decode cX8_can 62 = .ok (.iconst 1, 1) := by decide +kernel
theorem dX8_can_63 : decode cX8_can 63 = .ok (.goto 4, 3) := by decide +kernel
theorem dX8_can_66 : decode cX8_can 66 = .ok (.iconst 0, 1) := by decide +kernel
theorem dX8_can_67 : decode cX8_can 67 = .ok (.ireturn, 1) := by decide +kernel
theorem dX8_can_68 : decode cX8_can 68 = .ok (.iconst 1, 1) := by decide +kernel
theorem dX8_can_69 : decode cX8_can 69 = .ok (.ireturn, 1) := by decide +kernel
theorem dX8_can_70 : decode cX8_can 70 = .ok (.aload_n 0, 1) := by decide +kernel
theorem dX8_can_71 : decode cX8_can 71 = .ok (.bipush 34, 2) := by decide +kernel
theorem dX8_can_73 : decode cX8_can 73 = .ok (.iaload, 1) := by decide +kernel
theorem dX8_can_74 : decode cX8_can 74 = .ok (.iload_n 2, 1) := by decide +kernel
theorem dX8_can_75 : decode cX8_can 75 = .ok (.invokestatic 104, 3) := by decide +kernel
theorem dX8_can_78 : decode cX8_can 78 = .ok (.iload_n 1, 1) := by decide +kernel
theorem dX8_can_79 : decode cX8_can 79 = .ok (.bipush 117, 2) := by decide +kernel
theorem dX8_can_81 : decode cX8_can 81 = .ok (.if_icmp .ne 7, 3) := by decide +kernel
theorem dX8_can_84 : decode cX8_can 84 = .ok (.iconst 1, 1) := by decide +kernel
theorem dX8_can_85 : decode cX8_can 85 = .ok (.goto 4, 3) := by decide +kernel
theorem dX8_can_88 : decode cX8_can 88 = .ok (.iconst 0, 1) := by decide +kernel
theorem dX8_can_89 : decode cX8_can 89 = .ok (.if_icmp .ne 7, 3) := by decide +kernel
theorem dX8_can_92 : decode cX8_can 92 = .ok (.iconst 1, 1) := by decide +kernel
theorem dX8_can_93 : decode cX8_can 93 = .ok (.goto 4, 3) := by decide +kernel
theorem dX8_can_96 : decode cX8_can 96 = .ok (.iconst 0, 1) := by decide +kernel
theorem dX8_can_97 : decode cX8_can 97 = .ok (.ireturn, 1) := by decide +kernel
theorem dX8_does_0 : decode cX8_does 0 = .ok (.iload_n 2, 1) := by decide +kernel
theorem dX8_does_1 : decode cX8_does 1 = .ok (.lookupswitch 101 #[(103, 78), (115, 94), (116, 35)], 35) := by decide +kernel
theorem dX8_does_36 : decode cX8_does 36 = .ok (.aload_n 1, 1) := by decide +kernel
theorem dX8_does_37 : decode cX8_does 37 = .ok (.aload_n 0, 1) := by decide +kernel
theorem dX8_does_38 : decode cX8_does 38 = .ok (.getfield 25, 3) := by decide +kernel
theorem dX8_does_41 : decode cX8_does 41 = .ok (.iconst 0, 1) := by decide +kernel
theorem dX8_does_42 : decode cX8_does 42 = .ok (.iaload, 1) := by decide +kernel
theorem dX8_does_43 : decode cX8_does 43 = .ok (.aload_n 0, 1) := by decide +kernel
theorem dX8_does_44 : decode cX8_does 44 = .ok (.getfield 25, 3) := by decide +kernel
theorem dX8_does_47 : decode cX8_does 47 = .ok (.iconst 1, 1) := by decide +kernel
theorem dX8_does_48 : decode cX8_does 48 = .ok (.iaload, 1) := by decide +kernel
theorem dX8_does_49 : decode cX8_does 49 = .ok (.aload_n 0, 1) := by decide +kernel
theorem dX8_does_50 : decode cX8_does 50 = .ok (.getfield 25, 3) := by decide +kernel
theorem dX8_does_53 : decode cX8_does 53 = .ok (.iconst 2, 1) := by decide +kernel
theorem dX8_does_54 : decode cX8_does 54 = .ok (.iaload, 1) := by decide +kernel
theorem dX8_does_55 : decode cX8_does 55 = .ok (.aload_n 0, 1) := by decide +kernel
theorem dX8_does_56 : decode cX8_does 56 = .ok (.getfield 25, 3) := by decide +kernel
theorem dX8_does_59 : decode cX8_does 59 = .ok (.iconst 3, 1) := by decide +kernel
theorem dX8_does_60 : decode cX8_does 60 = .ok (.iaload, 1) := by decide +kernel
theorem dX8_does_61 : decode cX8_does 61 = .ok (.aload_n 0, 1) := by decide +kernel
theorem dX8_does_62 : decode cX8_does 62 = .ok (.getfield 25, 3) := by decide +kernel
theorem dX8_does_65 : decode cX8_does 65 = .ok (.iconst 4, 1) := by decide +kernel
theorem dX8_does_66 : decode cX8_does 66 = .ok (.iaload, 1) := by decide +kernel
theorem dX8_does_67 : decode cX8_does 67 = .ok (.aload_n 0, 1) := by decide +kernel
theorem dX8_does_68 : decode cX8_does 68 = .ok (.getfield 25, 3) := by decide +kernel
theorem dX8_does_71 : decode cX8_does 71 = .ok (.iconst 5, 1) := by decide +kernel
theorem dX8_does_72 : decode cX8_does 72 = .ok (.iaload, 1) := by decide +kernel
theorem dX8_does_73 : decode cX8_does 73 = .ok (.invokestatic 55, 3) := by decide +kernel
theorem dX8_does_76 : decode cX8_does 76 = .ok (.goto 41, 3) := by decide +kernel
theorem dX8_does_79 : decode cX8_does 79 = .ok (.aload_n 1, 1) := by decide +kernel
theorem dX8_does_80 : decode cX8_does 80 = .ok (.bipush 33, 2) := by decide +kernel
theorem dX8_does_82 : decode cX8_does 82 = .ok (.dup2, 1) := by decide +kernel
theorem dX8_does_83 : decode cX8_does 83 = .ok (.iaload, 1) := by decide +kernel
theorem dX8_does_84 : decode cX8_does 84 = .ok (.aload_n 0, 1) := by decide +kernel
theorem dX8_does_85 : decode cX8_does 85 = .ok (.getfield 25, 3) := by decide +kernel
theorem dX8_does_88 : decode cX8_does 88 = .ok (.iconst 0, 1) := by decide +kernel
theorem dX8_does_89 : decode cX8_does 89 = .ok (.iaload, 1) := by decide +kernel
theorem dX8_does_90 : decode cX8_does 90 = .ok (.iadd, 1) := by decide +kernel
theorem dX8_does_91 : decode cX8_does 91 = .ok (.iastore, 1) := by decide +kernel
theorem dX8_does_92 : decode cX8_does 92 = .ok (.goto 25, 3) := by decide +kernel
theorem dX8_does_95 : decode cX8_does 95 = .ok (.aload_n 1, 1) := by decide +kernel
theorem dX8_does_96 : decode cX8_does 96 = .ok (.invokestatic 93, 3) := by decide +kernel
theorem dX8_does_99 : decode cX8_does 99 = .ok (.goto 18, 3) := by decide +kernel
theorem dX8_does_102 : decode cX8_does 102 = .ok (.aload_n 1, 1) := by decide +kernel
theorem dX8_does_103 : decode cX8_does 103 = .ok (.bipush 34, 2) := by decide +kernel
theorem dX8_does_105 : decode cX8_does 105 = .ok (.dup2, 1) := by decide +kernel
theorem dX8_does_106 : decode cX8_does 106 = .ok (.iaload, 1) := by decide +kernel
theorem dX8_does_107 : decode cX8_does 107 = .ok (.iconst 1, 1) := by decide +kernel
theorem dX8_does_108 : decode cX8_does 108 = .ok (.aload_n 0, 1) := by decide +kernel
theorem dX8_does_109 : decode cX8_does 109 = .ok (.getfield 25, 3) := by decide +kernel
theorem dX8_does_112 : decode cX8_does 112 = .ok (.iconst 0, 1) := by decide +kernel
theorem dX8_does_113 : decode cX8_does 113 = .ok (.iaload, 1) := by decide +kernel
theorem dX8_does_114 : decode cX8_does 114 = .ok (.ishl, 1) := by decide +kernel
theorem dX8_does_115 : decode cX8_does 115 = .ok (.ixor, 1) := by decide +kernel
theorem dX8_does_116 : decode cX8_does 116 = .ok (.iastore, 1) := by decide +kernel
theorem dX8_does_117 : decode cX8_does 117 = .ok (.return_, 1) := by decide +kernel
theorem dX8_faults_0 : decode cX8_faults 0 = .ok (.aload_n 0, 1) := by decide +kernel
theorem dX8_faults_1 : decode cX8_faults 1 = .ok (.iload_n 1, 1) := by decide +kernel
theorem dX8_faults_2 : decode cX8_faults 2 = .ok (.putfield 209, 3) := by decide +kernel
theorem dX8_faults_5 : decode cX8_faults 5 = .ok (.aload_n 0, 1) := by decide +kernel
theorem dX8_faults_6 : decode cX8_faults 6 = .ok (.iload_n 2, 1) := by decide +kernel
theorem dX8_faults_7 : decode cX8_faults 7 = .ok (.putfield 212, 3) := by decide +kernel
theorem dX8_faults_10 : decode cX8_faults 10 = .ok (.aload_n 0, 1) := by decide +kernel
theorem dX8_faults_11 : decode cX8_faults 11 = .ok (.iload_n 3, 1) := by decide +kernel
theorem dX8_faults_12 : decode cX8_faults 12 = .ok (.putfield 215, 3) := by decide +kernel
theorem dX8_faults_15 : decode cX8_faults 15 = .ok (.return_, 1) := by decide +kernel
theorem dX8_done_0 : decode cX8_done 0 = .ok (.aload_n 0, 1) := by decide +kernel
theorem dX8_done_1 : decode cX8_done 1 = .ok (.getfield 7, 3) := by decide +kernel
theorem dX8_done_4 : decode cX8_done 4 = .ok (.iconst 0, 1) := by decide +kernel
theorem dX8_done_5 : decode cX8_done 5 = .ok (.aload_n 0, 1) := by decide +kernel
theorem dX8_done_6 : decode cX8_done 6 = .ok (.getfield 16, 3) := by decide +kernel
theorem dX8_done_9 : decode cX8_done 9 = .ok (.iconst 0, 1) := by decide +kernel
theorem dX8_done_10 : decode cX8_done 10 = .ok (.invokestatic 32, 3) := by decide +kernel
theorem dX8_done_13 : decode cX8_done 13 = .ok (.aload_n 0, 1) := by decide +kernel
theorem dX8_done_14 : decode cX8_done 14 = .ok (.ldc 49, 2) := by decide +kernel
theorem dX8_done_16 : decode cX8_done 16 = .ok (.iconst 0, 1) := by decide +kernel
theorem dX8_done_17 : decode cX8_done 17 = .ok (.ldc 49, 2) := by decide +kernel
theorem dX8_done_19 : decode cX8_done 19 = .ok (.invokevirtual 218, 3) := by decide +kernel
theorem dX8_done_22 : decode cX8_done 22 = .ok (.aload_n 0, 1) := by decide +kernel
theorem dX8_done_23 : decode cX8_done 23 = .ok (.iconst 0, 1) := by decide +kernel
theorem dX8_done_24 : decode cX8_done 24 = .ok (.putfield 194, 3) := by decide +kernel
theorem dX8_done_27 : decode cX8_done 27 = .ok (.iconst 0, 1) := by decide +kernel
theorem dX8_done_28 : decode cX8_done 28 = .ok (.istore_n 1, 1) := by decide +kernel
theorem dX8_done_29 : decode cX8_done 29 = .ok (.aload_n 0, 1) := by decide +kernel
theorem dX8_done_30 : decode cX8_done 30 = .ok (.getfield 212, 3) := by decide +kernel
theorem dX8_done_33 : decode cX8_done 33 = .ok (.ifCond .ne 130, 3) := by decide +kernel
theorem dX8_done_36 : decode cX8_done 36 = .ok (.aload_n 0, 1) := by decide +kernel
theorem dX8_done_37 : decode cX8_done 37 = .ok (.getfield 194, 3) := by decide +kernel
theorem dX8_done_40 : decode cX8_done 40 = .ok (.aload_n 0, 1) := by decide +kernel
theorem dX8_done_41 : decode cX8_done 41 = .ok (.getfield 191, 3) := by decide +kernel
theorem dX8_done_44 : decode cX8_done 44 = .ok (.if_icmp .ge 119, 3) := by decide +kernel
theorem dX8_done_47 : decode cX8_done 47 = .ok (.aload_n 0, 1) := by decide +kernel
theorem dX8_done_48 : decode cX8_done 48 = .ok (.getfield 194, 3) := by decide +kernel
theorem dX8_done_51 : decode cX8_done 51 = .ok (.istore_n 2, 1) := by decide +kernel
theorem dX8_done_52 : decode cX8_done 52 = .ok (.aload_n 0, 1) := by decide +kernel
theorem dX8_done_53 : decode cX8_done 53 = .ok (.invokevirtual 222, 3) := by decide +kernel
theorem dX8_done_56 : decode cX8_done 56 = .ok (.istore_n 3, 1) := by decide +kernel
theorem dX8_done_57 : decode cX8_done 57 = .ok (.aload_n 0, 1) := by decide +kernel
theorem dX8_done_58 : decode cX8_done 58 = .ok (.getfield 197, 3) := by decide +kernel
theorem dX8_done_61 : decode cX8_done 61 = .ok (.ldc 49, 2) := by decide +kernel
theorem dX8_done_63 : decode cX8_done 63 = .ok (.if_icmp .ne 11, 3) := by decide +kernel
theorem dX8_done_66 : decode cX8_done 66 = .ok (.aload_n 0, 1) := by decide +kernel
theorem dX8_done_67 : decode cX8_done 67 = .ok (.iload_n 3, 1) := by decide +kernel
theorem dX8_done_68 : decode cX8_done 68 = .ok (.invokevirtual 225, 3) := by decide +kernel
theorem dX8_done_71 : decode cX8_done 71 = .ok (.goto 5, 3) := by decide +kernel
theorem dX8_done_74 : decode cX8_done 74 = .ok (.ldc 49, 2) := by decide +kernel
theorem dX8_done_76 : decode cX8_done 76 = .ok (.istore 4, 2) := by decide +kernel
theorem dX8_done_78 : decode cX8_done 78 = .ok (.aload_n 0, 1) := by decide +kernel
theorem dX8_done_79 : decode cX8_done 79 = .ok (.getfield 197, 3) := by decide +kernel
theorem dX8_done_82 : decode cX8_done 82 = .ok (.ldc 49, 2) := by decide +kernel
theorem dX8_done_84 : decode cX8_done 84 = .ok (.if_icmp .eq 18, 3) := by decide +kernel
theorem dX8_done_87 : decode cX8_done 87 = .ok (.aload_n 0, 1) := by decide +kernel
theorem dX8_done_88 : decode cX8_done 88 = .ok (.iload_n 2, 1) := by decide +kernel
theorem dX8_done_89 : decode cX8_done 89 = .ok (.iconst 1, 1) := by decide +kernel
theorem dX8_done_90 : decode cX8_done 90 = .ok (.aload_n 0, 1) := by decide +kernel
theorem dX8_done_91 : decode cX8_done 91 = .ok (.getfield 197, 3) := by decide +kernel
theorem dX8_done_94 : decode cX8_done 94 = .ok (.iload_n 2, 1) := by decide +kernel
theorem dX8_done_95 : decode cX8_done 95 = .ok (.isub, 1) := by decide +kernel
theorem dX8_done_96 : decode cX8_done 96 = .ok (.invokevirtual 218, 3) := by decide +kernel
theorem dX8_done_99 : decode cX8_done 99 = .ok (.goto 61, 3) := by decide +kernel
theorem dX8_done_102 : decode cX8_done 102 = .ok (.iload 4, 2) := by decide +kernel
theorem dX8_done_104 : decode cX8_done 104 = .ok (.ldc 49, 2) := by decide +kernel
theorem dX8_done_106 : decode cX8_done 106 = .ok (.if_icmp .eq 14, 3) := by decide +kernel
theorem dX8_done_109 : decode cX8_done 109 = .ok (.aload_n 0, 1) := by decide +kernel
theorem dX8_done_110 : decode cX8_done 110 = .ok (.iload_n 2, 1) := by decide +kernel
theorem dX8_done_111 : decode cX8_done 111 = .ok (.iconst 2, 1) := by decide +kernel
theorem dX8_done_112 : decode cX8_done 112 = .ok (.iload 4, 2) := by decide +kernel
theorem dX8_done_114 : decode cX8_done 114 = .ok (.invokevirtual 218, 3) := by decide +kernel
theorem dX8_done_117 : decode cX8_done 117 = .ok (.goto 43, 3) := by decide +kernel
theorem dX8_done_120 : decode cX8_done 120 = .ok (.aload_n 0, 1) := by decide +kernel
theorem dX8_done_121 : decode cX8_done 121 = .ok (.getfield 16, 3) := by decide +kernel
theorem dX8_done_124 : decode cX8_done 124 = .ok (.iload_n 3, 1) := by decide +kernel
theorem dX8_done_125 : decode cX8_done 125 = .ok (.aload_n 0, 1) := by decide +kernel
theorem dX8_done_126 : decode cX8_done 126 = .ok (.getfield 25, 3) := by decide +kernel
theorem dX8_done_129 : decode cX8_done 129 = .ok (.iconst 0, 1) := by decide +kernel
theorem dX8_done_130 : decode cX8_done 130 = .ok (.iaload, 1) := by decide +kernel
theorem dX8_done_131 : decode cX8_done 131 = .ok (.invokestatic 228, 3) := by decide +kernel
theorem dX8_done_134 : decode cX8_done 134 = .ok (.ifCond .ne 14, 3) := by decide +kernel
theorem dX8_done_137 : decode cX8_done 137 = .ok (.aload_n 0, 1) := by decide +kernel
theorem dX8_done_138 : decode cX8_done 138 = .ok (.iload_n 2, 1) := by decide +kernel
theorem dX8_done_139 : decode cX8_done 139 = .ok (.iconst 3, 1) := by decide +kernel
theorem dX8_done_140 : decode cX8_done 140 = .ok (.ldc 49, 2) := by decide +kernel
theorem dX8_done_142 : decode cX8_done 142 = .ok (.invokevirtual 218, 3) := by decide +kernel
theorem dX8_done_145 : decode cX8_done 145 = .ok (.goto 15, 3) := by decide +kernel
theorem dX8_done_148 : decode cX8_done 148 = .ok (.aload_n 0, 1) := by decide +kernel
theorem dX8_done_149 : decode cX8_done 149 = .ok (.aload_n 0, 1) := by decide +kernel
theorem dX8_done_150 : decode cX8_done 150 = .ok (.getfield 16, 3) := by decide +kernel
theorem dX8_done_153 : decode cX8_done 153 = .ok (.iload_n 3, 1) := by decide +kernel
theorem dX8_done_154 : decode cX8_done 154 = .ok (.invokevirtual 231, 3) := by decide +kernel
theorem dX8_done_157 : decode cX8_done 157 = .ok (.iinc 1 1, 3) := by decide +kernel
theorem dX8_done_160 : decode cX8_done 160 = .ok (.goto (-131), 3) := by decide +kernel
theorem dX8_done_163 : decode cX8_done 163 = .ok (.iload_n 1, 1) := by decide +kernel
theorem dX8_done_164 : decode cX8_done 164 = .ok (.ireturn, 1) := by decide +kernel
theorem dX8_fault_0 : decode cX8_fault 0 = .ok (.iload_n 1, 1) := by decide +kernel
theorem dX8_fault_1 : decode cX8_fault 1 = .ok (.iconst 0, 1) := by decide +kernel
theorem dX8_fault_2 : decode cX8_fault 2 = .ok (.iconst 2, 1) := by decide +kernel
theorem dX8_fault_3 : decode cX8_fault 3 = .ok (.invokestatic 36, 3) := by decide +kernel
theorem dX8_fault_6 : decode cX8_fault 6 = .ok (.ifCond .ne 6, 3) := by decide +kernel
theorem dX8_fault_9 : decode cX8_fault 9 = .ok (.ldc 44, 2) := by decide +kernel
theorem dX8_fault_11 : decode cX8_fault 11 = .ok (.ireturn, 1) := by decide +kernel
theorem dX8_fault_12 : decode cX8_fault 12 = .ok (.aload_n 0, 1) := by decide +kernel
theorem dX8_fault_13 : decode cX8_fault 13 = .ok (.invokevirtual 234, 3) := by decide +kernel
theorem dX8_fault_16 : decode cX8_fault 16 = .ok (.pop, 1) := by decide +kernel
theorem dX8_fault_17 : decode cX8_fault 17 = .ok (.aload_n 0, 1) := by decide +kernel
theorem dX8_fault_18 : decode cX8_fault 18 = .ok (.getfield 212, 3) := by decide +kernel
theorem dX8_fault_21 : decode cX8_fault 21 = .ok (.ifCond .eq 17, 3) := by decide +kernel
theorem dX8_fault_24 : decode cX8_fault 24 = .ok (.iload_n 1, 1) := by decide +kernel
theorem dX8_fault_25 : decode cX8_fault 25 = .ok (.iconst 2, 1) := by decide +kernel
theorem dX8_fault_26 : decode cX8_fault 26 = .ok (.if_icmp .ne 15, 3) := by decide +kernel
theorem dX8_fault_29 : decode cX8_fault 29 = .ok (.aload_n 0, 1) := by decide +kernel
theorem dX8_fault_30 : decode cX8_fault 30 = .ok (.getfield 215, 3) := by decide +kernel
theorem dX8_fault_33 : decode cX8_fault 33 = .ok (.ldc 49, 2) := by decide +kernel
theorem dX8_fault_35 : decode cX8_fault 35 = .ok (.if_icmp .ne 6, 3) := by decide +kernel
theorem dX8_fault_38 : decode cX8_fault 38 = .ok (.ldc 120, 2) := by decide +kernel
theorem dX8_fault_40 : decode cX8_fault 40 = .ok (.ireturn, 1) := by decide +kernel
theorem dX8_fault_41 : decode cX8_fault 41 = .ok (.iload_n 1, 1) := by decide +kernel
theorem dX8_fault_42 : decode cX8_fault 42 = .ok (.ifCond .ne 10, 3) := by decide +kernel
theorem dX8_fault_45 : decode cX8_fault 45 = .ok (.aload_n 0, 1) := by decide +kernel
theorem dX8_fault_46 : decode cX8_fault 46 = .ok (.getfield 209, 3) := by decide +kernel
theorem dX8_fault_49 : decode cX8_fault 49 = .ok (.goto 19, 3) := by decide +kernel
theorem dX8_fault_52 : decode cX8_fault 52 = .ok (.iload_n 1, 1) := by decide +kernel
theorem dX8_fault_53 : decode cX8_fault 53 = .ok (.iconst 1, 1) := by decide +kernel
theorem dX8_fault_54 : decode cX8_fault 54 = .ok (.if_icmp .ne 10, 3) := by decide +kernel
theorem dX8_fault_57 : decode cX8_fault 57 = .ok (.aload_n 0, 1) := by decide +kernel
theorem dX8_fault_58 : decode cX8_fault 58 = .ok (.getfield 212, 3) := by decide +kernel
theorem dX8_fault_61 : decode cX8_fault 61 = .ok (.goto 7, 3) := by decide +kernel
theorem dX8_fault_64 : decode cX8_fault 64 = .ok (.aload_n 0, 1) := by decide +kernel
theorem dX8_fault_65 : decode cX8_fault 65 = .ok (.getfield 215, 3) := by decide +kernel
theorem dX8_fault_68 : decode cX8_fault 68 = .ok (.ireturn, 1) := by decide +kernel
theorem dX8_play_0 : decode cX8_play 0 = .ok (.aload_n 0, 1) := by decide +kernel
theorem dX8_play_1 : decode cX8_play 1 = .ok (.invokevirtual 234, 3) := by decide +kernel
theorem dX8_play_4 : decode cX8_play 4 = .ok (.istore_n 1, 1) := by decide +kernel
theorem dX8_play_5 : decode cX8_play 5 = .ok (.aload_n 0, 1) := by decide +kernel
theorem dX8_play_6 : decode cX8_play 6 = .ok (.getfield 212, 3) := by decide +kernel
theorem dX8_play_9 : decode cX8_play 9 = .ok (.ifCond .eq 6, 3) := by decide +kernel
theorem dX8_play_12 : decode cX8_play 12 = .ok (.ldc 45, 2) := by decide +kernel
theorem dX8_play_14 : decode cX8_play 14 = .ok (.ireturn, 1) := by decide +kernel
theorem dX8_play_15 : decode cX8_play 15 = .ok (.aload_n 0, 1) := by decide +kernel
theorem dX8_play_16 : decode cX8_play 16 = .ok (.invokevirtual 46, 3) := by decide +kernel
theorem dX8_play_19 : decode cX8_play 19 = .ok (.aload_n 0, 1) := by decide +kernel
theorem dX8_play_20 : decode cX8_play 20 = .ok (.getfield 16, 3) := by decide +kernel
theorem dX8_play_23 : decode cX8_play 23 = .ok (.iconst 0, 1) := by decide +kernel
theorem dX8_play_24 : decode cX8_play 24 = .ok (.aload_n 0, 1) := by decide +kernel
theorem dX8_play_25 : decode cX8_play 25 = .ok (.getfield 7, 3) := by decide +kernel
theorem dX8_play_28 : decode cX8_play 28 = .ok (.iconst 0, 1) := by decide +kernel
theorem dX8_play_29 : decode cX8_play 29 = .ok (.invokestatic 32, 3) := by decide +kernel
theorem dX8_play_32 : decode cX8_play 32 = .ok (.iload_n 1, 1) := by decide +kernel
theorem dX8_play_33 : decode cX8_play 33 = .ok (.ireturn, 1) := by decide +kernel
