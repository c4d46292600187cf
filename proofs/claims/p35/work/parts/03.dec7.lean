theorem dX7_init_0 : decode cX7_init 0 = .ok (.aload_n 0, 1) := by decide +kernel
theorem dX7_init_1 : decode cX7_init 1 = .ok (.invokespecial 3, 3) := by decide +kernel
theorem dX7_init_4 : decode cX7_init 4 = .ok (.aload_n 0, 1) := by decide +kernel
theorem dX7_init_5 : decode cX7_init 5 = .ok (.new 9, 3) := by decide +kernel
theorem dX7_init_8 : decode cX7_init 8 = .ok (.dup, 1) := by decide +kernel
theorem dX7_init_9 : decode cX7_init 9 = .ok (.invokespecial 11, 3) := by decide +kernel
theorem dX7_init_12 : decode cX7_init 12 = .ok (.putfield 12, 3) := by decide +kernel
theorem dX7_init_15 : decode cX7_init 15 = .ok (.aload_n 0, 1) := by decide +kernel
theorem dX7_init_16 : decode cX7_init 16 = .ok (.iconst 4, 1) := by decide +kernel
theorem dX7_init_17 : decode cX7_init 17 = .ok (.anewarray 9, 3) := by decide +kernel
theorem dX7_init_20 : decode cX7_init 20 = .ok (.putfield 16, 3) := by decide +kernel
theorem dX7_init_23 : decode cX7_init 23 = .ok (.aload_n 0, 1) := by decide +kernel
theorem dX7_init_24 : decode cX7_init 24 = .ok (.iconst 0, 1) := by decide +kernel
theorem dX7_init_25 : decode cX7_init 25 = .ok (.putfield 20, 3) := by decide +kernel
theorem dX7_init_28 : decode cX7_init 28 = .ok (.aload_n 0, 1) := by decide +kernel
theorem dX7_init_29 : decode cX7_init 29 = .ok (.new 24, 3) := by decide +kernel
theorem dX7_init_32 : decode cX7_init 32 = .ok (.dup, 1) := by decide +kernel
theorem dX7_init_33 : decode cX7_init 33 = .ok (.invokespecial 26, 3) := by decide +kernel
theorem dX7_init_36 : decode cX7_init 36 = .ok (.putfield 27, 3) := by decide +kernel
theorem dX7_init_39 : decode cX7_init 39 = .ok (.aload_n 0, 1) := by decide +kernel
theorem dX7_init_40 : decode cX7_init 40 = .ok (.new 31, 3) := by decide +kernel
theorem dX7_init_43 : decode cX7_init 43 = .ok (.dup, 1) := by decide +kernel
theorem dX7_init_44 : decode cX7_init 44 = .ok (.invokespecial 33, 3) := by decide +kernel
theorem dX7_init_47 : decode cX7_init 47 = .ok (.putfield 34, 3) := by decide +kernel
theorem dX7_init_50 : decode cX7_init 50 = .ok (.aload_n 0, 1) := by decide +kernel
theorem dX7_init_51 : decode cX7_init 51 = .ok (.new 38, 3) := by decide +kernel
theorem dX7_init_54 : decode cX7_init 54 = .ok (.dup, 1) := by decide +kernel
theorem dX7_init_55 : decode cX7_init 55 = .ok (.invokespecial 40, 3) := by decide +kernel
theorem dX7_init_58 : decode cX7_init 58 = .ok (.putfield 41, 3) := by decide +kernel
theorem dX7_init_61 : decode cX7_init 61 = .ok (.aload_n 0, 1) := by decide +kernel
theorem dX7_init_62 : decode cX7_init 62 = .ok (.new 45, 3) := by decide +kernel
theorem dX7_init_65 : decode cX7_init 65 = .ok (.dup, 1) := by decide +kernel
theorem dX7_init_66 : decode cX7_init 66 = .ok (.invokespecial 47, 3) := by decide +kernel
theorem dX7_init_69 : decode cX7_init 69 = .ok (.putfield 48, 3) := by decide +kernel
theorem dX7_init_72 : decode cX7_init 72 = .ok (.aload_n 0, 1) := by decide +kernel
theorem dX7_init_73 : decode cX7_init 73 = .ok (.bipush 16, 2) := by decide +kernel
theorem dX7_init_75 : decode cX7_init 75 = .ok (.newarray .int, 2) := by decide +kernel
theorem dX7_init_77 : decode cX7_init 77 = .ok (.putfield 52, 3) := by decide +kernel
theorem dX7_init_80 : decode cX7_init 80 = .ok (.iconst 0, 1) := by decide +kernel
theorem dX7_init_81 : decode cX7_init 81 = .ok (.istore_n 1, 1) := by decide +kernel
theorem dX7_init_82 : decode cX7_init 82 = .ok (.iload_n 1, 1) := by decide +kernel
theorem dX7_init_83 : decode cX7_init 83 = .ok (.aload_n 0, 1) := by decide +kernel
theorem dX7_init_84 : decode cX7_init 84 = .ok (.getfield 16, 3) := by decide +kernel
theorem dX7_init_87 : decode cX7_init 87 = .ok (.arraylength, 1) := by decide +kernel
theorem dX7_init_88 : decode cX7_init 88 = .ok (.if_icmp .ge 22, 3) := by decide +kernel
theorem dX7_init_91 : decode cX7_init 91 = .ok (.aload_n 0, 1) := by decide +kernel
theorem dX7_init_92 : decode cX7_init 92 = .ok (.getfield 16, 3) := by decide +kernel
theorem dX7_init_95 : decode cX7_init 95 = .ok (.iload_n 1, 1) := by decide +kernel
theorem dX7_init_96 : decode cX7_init 96 = .ok (.new 9, 3) := by decide +kernel
theorem dX7_init_99 : decode cX7_init 99 = .ok (.dup, 1) := by decide +kernel
theorem dX7_init_100 : decode cX7_init 100 = .ok (.invokespecial 11, 3) := by decide +kernel
theorem dX7_init_103 : decode cX7_init 103 = .ok (.aastore, 1) := by decide +kernel
theorem dX7_init_104 : decode cX7_init 104 = .ok (.iinc 1 1, 3) := by decide +kernel
theorem dX7_init_107 : decode cX7_init 107 = .ok (.goto (-25), 3) := by decide +kernel
theorem dX7_init_110 : decode cX7_init 110 = .ok (.return_, 1) := by decide +kernel
theorem dX7_set_0 : decode cX7_set 0 = .ok (.iload_n 1, 1) := by decide +kernel
theorem dX7_set_1 : decode cX7_set 1 = .ok (.iconst 0, 1) := by decide +kernel
theorem dX7_set_2 : decode cX7_set 2 = .ok (.bipush 7, 2) := by decide +kernel
theorem dX7_set_4 : decode cX7_set 4 = .ok (.invokestatic 56, 3) := by decide +kernel
theorem dX7_set_7 : decode cX7_set 7 = .ok (.ifCond .ne 6, 3) := by decide +kernel
theorem dX7_set_10 : decode cX7_set 10 = .ok (.ldc 60, 2) := by decide +kernel
theorem dX7_set_12 : decode cX7_set 12 = .ok (.ireturn, 1) := by decide +kernel
theorem dX7_set_13 : decode cX7_set 13 = .ok (.iload_n 2, 1) := by decide +kernel
theorem dX7_set_14 : decode cX7_set 14 = .ok (.getstatic 61, 3) := by decide +kernel
theorem dX7_set_17 : decode cX7_set 17 = .ok (.iload_n 1, 1) := by decide +kernel
theorem dX7_set_18 : decode cX7_set 18 = .ok (.invokestatic 64, 3) := by decide +kernel
theorem dX7_set_21 : decode cX7_set 21 = .ok (.getstatic 68, 3) := by decide +kernel
theorem dX7_set_24 : decode cX7_set 24 = .ok (.iload_n 1, 1) := by decide +kernel
theorem dX7_set_25 : decode cX7_set 25 = .ok (.invokestatic 64, 3) := by decide +kernel
theorem dX7_set_28 : decode cX7_set 28 = .ok (.invokestatic 56, 3) := by decide +kernel
theorem dX7_set_31 : decode cX7_set 31 = .ok (.ifCond .ne 6, 3) := by decide +kernel
theorem dX7_set_34 : decode cX7_set 34 = .ok (.ldc 60, 2) := by decide +kernel
theorem dX7_set_36 : decode cX7_set 36 = .ok (.ireturn, 1) := by decide +kernel
theorem dX7_set_37 : decode cX7_set 37 = .ok (.iload_n 1, 1) := by decide +kernel
theorem dX7_set_38 : decode cX7_set 38 = .ok (.iconst 2, 1) := by decide +kernel
theorem dX7_set_39 : decode cX7_set 39 = .ok (.if_icmp .gt 16, 3) := by decide +kernel
theorem dX7_set_42 : decode cX7_set 42 = .ok (.aload_n 0, 1) := by decide +kernel
theorem dX7_set_43 : decode cX7_set 43 = .ok (.getfield 12, 3) := by decide +kernel
theorem dX7_set_46 : decode cX7_set 46 = .ok (.getfield 71, 3) := by decide +kernel
theorem dX7_set_49 : decode cX7_set 49 = .ok (.ifCond .le 6, 3) := by decide +kernel
theorem dX7_set_52 : decode cX7_set 52 = .ok (.ldc 74, 2) := by decide +kernel
theorem dX7_set_54 : decode cX7_set 54 = .ok (.ireturn, 1) := by decide +kernel
theorem dX7_set_55 : decode cX7_set 55 = .ok (.aload_n 0, 1) := by decide +kernel
theorem dX7_set_56 : decode cX7_set 56 = .ok (.invokevirtual 75, 3) := by decide +kernel
theorem dX7_set_59 : decode cX7_set 59 = .ok (.aload_n 0, 1) := by decide +kernel
theorem dX7_set_60 : decode cX7_set 60 = .ok (.getfield 12, 3) := by decide +kernel
theorem dX7_set_63 : decode cX7_set 63 = .ok (.iload_n 1, 1) := by decide +kernel
theorem dX7_set_64 : decode cX7_set 64 = .ok (.invokevirtual 78, 3) := by decide +kernel
theorem dX7_set_67 : decode cX7_set 67 = .ok (.istore_n 3, 1) := by decide +kernel
theorem dX7_set_68 : decode cX7_set 68 = .ok (.aload_n 0, 1) := by decide +kernel
theorem dX7_set_69 : decode cX7_set 69 = .ok (.getfield 12, 3) := by decide +kernel
theorem dX7_set_72 : decode cX7_set 72 = .ok (.iload_n 1, 1) := by decide +kernel
theorem dX7_set_73 : decode cX7_set 73 = .ok (.iload_n 2, 1) := by decide +kernel
theorem dX7_set_74 : decode cX7_set 74 = .ok (.invokevirtual 82, 3) := by decide +kernel
theorem dX7_set_77 : decode cX7_set 77 = .ok (.iload_n 3, 1) := by decide +kernel
theorem dX7_set_78 : decode cX7_set 78 = .ok (.ireturn, 1) := by decide +kernel
theorem dX7_thing_0 : decode cX7_thing 0 = .ok (.iload_n 1, 1) := by decide +kernel
theorem dX7_thing_1 : decode cX7_thing 1 = .ok (.iload_n 2, 1) := by decide +kernel
theorem dX7_thing_2 : decode cX7_thing 2 = .ok (.iload_n 3, 1) := by decide +kernel
theorem dX7_thing_3 : decode cX7_thing 3 = .ok (.iload 4, 2) := by decide +kernel
theorem dX7_thing_5 : decode cX7_thing 5 = .ok (.iload 5, 2) := by decide +kernel
theorem dX7_thing_7 : decode cX7_thing 7 = .ok (.iload 6, 2) := by decide +kernel
theorem dX7_thing_9 : decode cX7_thing 9 = .ok (.invokestatic 86, 3) := by decide +kernel
theorem dX7_thing_12 : decode cX7_thing 12 = .ok (.ifCond .lt 6, 3) := by decide +kernel
theorem dX7_thing_15 : decode cX7_thing 15 = .ok (.ldc 60, 2) := by decide +kernel
theorem dX7_thing_17 : decode cX7_thing 17 = .ok (.ireturn, 1) := by decide +kernel
theorem dX7_thing_18 : decode cX7_thing 18 = .ok (.aload_n 0, 1) := by decide +kernel
theorem dX7_thing_19 : decode cX7_thing 19 = .ok (.getfield 12, 3) := by decide +kernel
theorem dX7_thing_22 : decode cX7_thing 22 = .ok (.getfield 90, 3) := by decide +kernel
theorem dX7_thing_25 : decode cX7_thing 25 = .ok (.iconst 4, 1) := by decide +kernel
theorem dX7_thing_26 : decode cX7_thing 26 = .ok (.if_icmp .lt 6, 3) := by decide +kernel
theorem dX7_thing_29 : decode cX7_thing 29 = .ok (.ldc 93, 2) := by decide +kernel
theorem dX7_thing_31 : decode cX7_thing 31 = .ok (.ireturn, 1) := by decide +kernel
theorem dX7_thing_32 : decode cX7_thing 32 = .ok (.aload_n 0, 1) := by decide +kernel
theorem dX7_thing_33 : decode cX7_thing 33 = .ok (.invokevirtual 75, 3) := by decide +kernel
theorem dX7_thing_36 : decode cX7_thing 36 = .ok (.aload_n 0, 1) := by decide +kernel
theorem dX7_thing_37 : decode cX7_thing 37 = .ok (.getfield 12, 3) := by decide +kernel
theorem dX7_thing_40 : decode cX7_thing 40 = .ok (.iload_n 1, 1) := by decide +kernel
theorem dX7_thing_41 : decode cX7_thing 41 = .ok (.iload_n 2, 1) := by decide +kernel
theorem dX7_thing_42 : decode cX7_thing 42 = .ok (.iload_n 3, 1) := by decide +kernel
theorem dX7_thing_43 : decode cX7_thing 43 = .ok (.iload 4, 2) := by decide +kernel
theorem dX7_thing_45 : decode cX7_thing 45 = .ok (.iload 5, 2) := by decide +kernel
theorem dX7_thing_47 : decode cX7_thing 47 = .ok (.iload 6, 2) := by decide +kernel
theorem dX7_thing_49 : decode cX7_thing 49 = .ok (.invokevirtual 94, 3) := by decide +kernel
theorem dX7_thing_52 : decode cX7_thing 52 = .ok (.aload_n 0, 1) := by decide +kernel
theorem dX7_thing_53 : decode cX7_thing 53 = .ok (.getfield 12, 3) := by decide +kernel
theorem dX7_thing_56 : decode cX7_thing 56 = .ok (.getfield 90, 3) := by decide +kernel
theorem dX7_thing_59 : decode cX7_thing 59 = .ok (.iconst 1, 1) := by decide +kernel
theorem dX7_thing_60 : decode cX7_thing 60 = .ok (.isub, 1) := by decide +kernel
theorem dX7_thing_61 : decode cX7_thing 61 = .ok (.ireturn, 1) := by decide +kernel
theorem dX7_turn_0 : decode cX7_turn 0 = .ok (.aload_n 0, 1) := by decide +kernel
theorem dX7_turn_1 : decode cX7_turn 1 = .ok (.getfield 12, 3) := by decide +kernel
theorem dX7_turn_4 : decode cX7_turn 4 = .ok (.iload_n 1, 1) := by decide +kernel
theorem dX7_turn_5 : decode cX7_turn 5 = .ok (.invokevirtual 98, 3) := by decide +kernel
theorem dX7_turn_8 : decode cX7_turn 8 = .ok (.astore_n 3, 1) := by decide +kernel
theorem dX7_turn_9 : decode cX7_turn 9 = .ok (.aload_n 3, 1) := by decide +kernel
theorem dX7_turn_10 : decode cX7_turn 10 = .ok (.ifnull 16, 3) := by decide +kernel
theorem dX7_turn_13 : decode cX7_turn 13 = .ok (.iload_n 2, 1) := by decide +kernel
theorem dX7_turn_14 : decode cX7_turn 14 = .ok (.sipush (-200), 3) := by decide +kernel
theorem dX7_turn_17 : decode cX7_turn 17 = .ok (.sipush 200, 3) := by decide +kernel
theorem dX7_turn_20 : decode cX7_turn 20 = .ok (.invokestatic 56, 3) := by decide +kernel
theorem dX7_turn_23 : decode cX7_turn 23 = .ok (.ifCond .ne 6, 3) := by decide +kernel
theorem dX7_turn_26 : decode cX7_turn 26 = .ok (.ldc 60, 2) := by decide +kernel
theorem dX7_turn_28 : decode cX7_turn 28 = .ok (.ireturn, 1) := by decide +kernel
theorem dX7_turn_29 : decode cX7_turn 29 = .ok (.aload_n 0, 1) := by decide +kernel
theorem dX7_turn_30 : decode cX7_turn 30 = .ok (.invokevirtual 75, 3) := by decide +kernel
theorem dX7_turn_33 : decode cX7_turn 33 = .ok (.aload_n 3, 1) := by decide +kernel
theorem dX7_turn_34 : decode cX7_turn 34 = .ok (.getfield 102, 3) := by decide +kernel
theorem dX7_turn_37 : decode cX7_turn 37 = .ok (.istore 4, 2) := by decide +kernel
theorem dX7_turn_39 : decode cX7_turn 39 = .ok (.aload_n 3, 1) := by decide +kernel
theorem dX7_turn_40 : decode cX7_turn 40 = .ok (.iload_n 2, 1) := by decide +kernel
theorem dX7_turn_41 : decode cX7_turn 41 = .ok (.aload_n 0, 1) := by decide +kernel
theorem dX7_turn_42 : decode cX7_turn 42 = .ok (.getfield 12, 3) := by decide +kernel
theorem dX7_turn_45 : decode cX7_turn 45 = .ok (.getfield 107, 3) := by decide +kernel
theorem dX7_turn_48 : decode cX7_turn 48 = .ok (.invokevirtual 110, 3) := by decide +kernel
theorem dX7_turn_51 : decode cX7_turn 51 = .ok (.iload 4, 2) := by decide +kernel
theorem dX7_turn_53 : decode cX7_turn 53 = .ok (.ireturn, 1) := by decide +kernel
theorem dX7_thingOf_0 : decode cX7_thingOf 0 = .ok (.aload_n 0, 1) := by decide +kernel
theorem dX7_thingOf_1 : decode cX7_thingOf 1 = .ok (.getfield 12, 3) := by decide +kernel
theorem dX7_thingOf_4 : decode cX7_thingOf 4 = .ok (.iload_n 1, 1) := by decide +kernel
theorem dX7_thingOf_5 : decode cX7_thingOf 5 = .ok (.invokevirtual 98, 3) := by decide +kernel
theorem dX7_thingOf_8 : decode cX7_thingOf 8 = .ok (.astore_n 3, 1) := by decide +kernel
theorem dX7_thingOf_9 : decode cX7_thingOf 9 = .ok (.aload_n 3, 1) := by decide +kernel
theorem dX7_thingOf_10 : decode cX7_thingOf 10 = .ok (.ifnull 13, 3) := by decide +kernel
theorem dX7_thingOf_13 : decode cX7_thingOf 13 = .ok (.iload_n 2, 1) := by decide +kernel
theorem dX7_thingOf_14 : decode cX7_thingOf 14 = .ok (.iconst 0, 1) := by decide +kernel
theorem dX7_thingOf_15 : decode cX7_thingOf 15 = .ok (.bipush 6, 2) := by decide +kernel
theorem dX7_thingOf_17 : decode cX7_thingOf 17 = .ok (.invokestatic 56, 3) := by decide +kernel
theorem dX7_thingOf_20 : decode cX7_thingOf 20 = .ok (.ifCond .ne 6, 3) := by decide +kernel
theorem dX7_thingOf_23 : decode cX7_thingOf 23 = .ok (.ldc 60, 2) := by decide +kernel
theorem dX7_thingOf_25 : decode cX7_thingOf 25 = .ok (.ireturn, 1) := by decide +kernel
theorem dX7_thingOf_26 : decode cX7_thingOf 26 = .ok (.iload_n 2, 1) := by decide +kernel
theorem dX7_thingOf_27 : decode cX7_thingOf 27 = .ok (.bipush 6, 2) := by decide +kernel
theorem dX7_thingOf_29 : decode cX7_thingOf 29 = .ok (.if_icmp .ne 17, 3) := by decide +kernel
theorem dX7_thingOf_32 : decode cX7_thingOf 32 = .ok (.aload_n 3, 1) := by decide +kernel
theorem dX7_thingOf_33 : decode cX7_thingOf 33 = .ok (.aload_n 0, 1) := by decide +kernel
theorem dX7_thingOf_34 : decode cX7_thingOf 34 = .ok (.getfield 12, 3) := by decide +kernel
theorem dX7_thingOf_37 : decode cX7_thingOf 37 = .ok (.getfield 107, 3) := by decide +kernel
theorem dX7_thingOf_40 : decode cX7_thingOf 40 = .ok (.invokevirtual 113, 3) := by decide +kernel
theorem dX7_thingOf_43 : decode cX7_thingOf 43 = .ok (.goto 8, 3) := by decide +kernel
theorem dX7_thingOf_46 : decode cX7_thingOf 46 = .ok (.aload_n 3, 1) := by decide +kernel
theorem dX7_thingOf_47 : decode cX7_thingOf 47 = .ok (.iload_n 2, 1) := by decide +kernel
theorem dX7_thingOf_48 : decode cX7_thingOf 48 = .ok (.invokevirtual 116, 3) := by decide +kernel
theorem dX7_thingOf_51 : decode cX7_thingOf 51 = .ok (.ireturn, 1) := by decide +kernel
theorem dX7_blind_0 : decode cX7_blind 0 = .ok (.iload_n 1, 1) := by decide +kernel
theorem dX7_blind_1 : decode cX7_blind 1 = .ok (.iconst 0, 1) := by decide +kernel
theorem dX7_blind_2 : decode cX7_blind 2 = .ok (.bipush 9, 2) := by decide +kernel
theorem dX7_blind_4 : decode cX7_blind 4 = .ok (.invokestatic 56, 3) := by decide +kernel
theorem dX7_blind_7 : decode cX7_blind 7 = .ok (.ifCond .eq 12, 3) := by decide +kernel
theorem dX7_blind_10 : decode cX7_blind 10 = .ok (.iload_n 2, 1) := by decide +kernel
theorem dX7_blind_11 : decode cX7_blind 11 = .ok (.iconst 0, 1) := by decide +kernel
theorem dX7_blind_12 : decode cX7_blind 12 = .ok (.iconst 1, 1) := by decide +kernel
theorem dX7_blind_13 : decode cX7_blind 13 = .ok (.invokestatic 56, 3) := by decide +kernel
theorem dX7_blind_16 : decode cX7_blind 16 = .ok (.ifCond .ne 6, 3) := by decide +kernel
theorem dX7_blind_19 : decode cX7_blind 19 = .ok (.ldc 60, 2) := by decide +kernel
theorem dX7_blind_21 : decode cX7_blind 21 = .ok (.ireturn, 1) := by decide +kernel
theorem dX7_blind_22 : decode cX7_blind 22 = .ok (.aload_n 0, 1) := by decide +kernel
theorem dX7_blind_23 : decode cX7_blind 23 = .ok (.getfield 12, 3) := by decide +kernel
theorem dX7_blind_26 : decode cX7_blind 26 = .ok (.getfield 119, 3) := by decide +kernel
theorem dX7_blind_29 : decode cX7_blind 29 = .ok (.iload_n 1, 1) := by decide +kernel
theorem dX7_blind_30 : decode cX7_blind 30 = .ok (.invokestatic 122, 3) := by decide +kernel
theorem dX7_blind_33 : decode cX7_blind 33 = .ok (.iload_n 2, 1) := by decide +kernel
theorem dX7_blind_34 : decode cX7_blind 34 = .ok (.iconst 1, 1) := by decide +kernel
theorem dX7_blind_35 : decode cX7_blind 35 = .ok (.if_icmp .ne 7, 3) := by decide +kernel
theorem dX7_blind_38 : decode cX7_blind 38 = .ok (.iconst 1, 1) := by decide +kernel
theorem dX7_blind_39 : decode cX7_blind 39 = .ok (.goto 4, 3) := by decide +kernel
theorem dX7_blind_42 : decode cX7_blind 42 = .ok (.iconst 0, 1) := by decide +kernel
theorem dX7_blind_43 : decode cX7_blind 43 = .ok (.if_icmp .ne 6, 3) := by decide +kernel
theorem dX7_blind_46 : decode cX7_blind 46 = .ok (.ldc 74, 2) := by decide +kernel
theorem dX7_blind_48 : decode cX7_blind 48 = .ok (.ireturn, 1) := by decide +kernel
theorem dX7_blind_49 : decode cX7_blind 49 = .ok (.aload_n 0, 1) := by decide +kernel
theorem dX7_blind_50 : decode cX7_blind 50 = .ok (.invokevirtual 75, 3) := by decide +kernel
theorem dX7_blind_53 : decode cX7_blind 53 = .ok (.aload_n 0, 1) := by decide +kernel
theorem dX7_blind_54 : decode cX7_blind 54 = .ok (.getfield 12, 3) := by decide +kernel
theorem dX7_blind_57 : decode cX7_blind 57 = .ok (.dup, 1) := by decide +kernel
theorem dX7_blind_58 : decode cX7_blind 58 = .ok (.getfield 119, 3) := by decide +kernel
theorem dX7_blind_61 : decode cX7_blind 61 = .ok (.iconst 1, 1) := by decide +kernel
theorem dX7_blind_62 : decode cX7_blind 62 = .ok (.iload_n 1, 1) := by decide +kernel
theorem dX7_blind_63 : decode cX7_blind 63 = .ok (.ishl, 1) := by decide +kernel
theorem dX7_blind_64 : decode cX7_blind 64 = .ok (.ixor, 1) := by decide +kernel
theorem dX7_blind_65 : decode cX7_blind 65 = .ok (.putfield 119, 3) := by decide +kernel
theorem dX7_blind_68 : decode cX7_blind 68 = .ok (.aload_n 0, 1) := by decide +kernel
theorem dX7_blind_69 : decode cX7_blind 69 = .ok (.getfield 12, 3) := by decide +kernel
theorem dX7_blind_72 : decode cX7_blind 72 = .ok (.getfield 119, 3) := by decide +kernel
theorem dX7_blind_75 : decode cX7_blind 75 = .ok (.invokestatic 126, 3) := by decide +kernel
theorem dX7_blind_78 : decode cX7_blind 78 = .ok (.ireturn, 1) := by decide +kernel
theorem dX7_shows_0 : decode cX7_shows 0 = .ok (.aload_n 0, 1) := by decide +kernel
theorem dX7_shows_1 : decode cX7_shows 1 = .ok (.iload_n 1, 1) := by decide +kernel
theorem dX7_shows_2 : decode cX7_shows 2 = .ok (.iload_n 2, 1) := by decide +kernel
theorem dX7_shows_3 : decode cX7_shows 3 = .ok (.invokevirtual 131, 3) := by decide +kernel
theorem dX7_shows_6 : decode cX7_shows 6 = .ok (.ifCond .eq 14, 3) := by decide +kernel
theorem dX7_shows_9 : decode cX7_shows 9 = .ok (.iload_n 3, 1) := by decide +kernel
theorem dX7_shows_10 : decode cX7_shows 10 = .ok (.iconst 0, 1) := by decide +kernel
theorem dX7_shows_11 : decode cX7_shows 11 = .ok (.sipush 20000, 3) := by decide +kernel
theorem dX7_shows_14 : decode cX7_shows 14 = .ok (.invokestatic 56, 3) := by decide +kernel
theorem dX7_shows_17 : decode cX7_shows 17 = .ok (.ifCond .ne 6, 3) := by decide +kernel
theorem dX7_shows_20 : decode cX7_shows 20 = .ok (.ldc 60, 2) := by decide +kernel
theorem dX7_shows_22 : decode cX7_shows 22 = .ok (.ireturn, 1) := by decide +kernel
theorem dX7_shows_23 : decode cX7_shows 23 = .ok (.aload_n 0, 1) := by decide +kernel
theorem dX7_shows_24 : decode cX7_shows 24 = .ok (.getfield 12, 3) := by decide +kernel
theorem dX7_shows_27 : decode cX7_shows 27 = .ok (.iload_n 1, 1) := by decide +kernel
theorem dX7_shows_28 : decode cX7_shows 28 = .ok (.iload_n 3, 1) := by decide +kernel
theorem dX7_shows_29 : decode cX7_shows 29 = .ok (.iconst (-1), 1) := by decide +kernel
theorem dX7_shows_30 : decode cX7_shows 30 = .ok (.iconst 0, 1) := by decide +kernel
theorem dX7_shows_31 : decode cX7_shows 31 = .ok (.aload_n 0, 1) := by decide +kernel
theorem dX7_shows_32 : decode cX7_shows 32 = .ok (.getfield 52, 3) := by decide +kernel
theorem dX7_shows_35 : decode cX7_shows 35 = .ok (.invokevirtual 134, 3) := by decide +kernel
theorem dX7_shows_38 : decode cX7_shows 38 = .ok (.aload_n 0, 1) := by decide +kernel
theorem dX7_shows_39 : decode cX7_shows 39 = .ok (.getfield 52, 3) := by decide +kernel
theorem dX7_shows_42 : decode cX7_shows 42 = .ok (.iload_n 2, 1) := by decide +kernel
theorem dX7_shows_43 : decode cX7_shows 43 = .ok (.invokestatic 64, 3) := by decide +kernel
theorem dX7_shows_46 : decode cX7_shows 46 = .ok (.aload_n 0, 1) := by decide +kernel
theorem dX7_shows_47 : decode cX7_shows 47 = .ok (.getfield 12, 3) := by decide +kernel
theorem dX7_shows_50 : decode cX7_shows 50 = .ok (.iload_n 3, 1) := by decide +kernel
theorem dX7_shows_51 : decode cX7_shows 51 = .ok (.invokevirtual 138, 3) := by decide +kernel
theorem dX7_shows_54 : decode cX7_shows 54 = .ok (.invokestatic 141, 3) := by decide +kernel
theorem dX7_shows_57 : decode cX7_shows 57 = .ok (.ireturn, 1) := by decide +kernel
theorem dX7_shoot_0 : decode cX7_shoot 0 = .ok (.aload_n 0, 1) := by decide +kernel
theorem dX7_shoot_1 : decode cX7_shoot 1 = .ok (.invokevirtual 75, 3) := by decide +kernel
theorem dX7_shoot_4 : decode cX7_shoot 4 = .ok (.aload_n 0, 1) := by decide +kernel
theorem dX7_shoot_5 : decode cX7_shoot 5 = .ok (.getfield 12, 3) := by decide +kernel
theorem dX7_shoot_8 : decode cX7_shoot 8 = .ok (.aload_n 0, 1) := by decide +kernel
theorem dX7_shoot_9 : decode cX7_shoot 9 = .ok (.getfield 52, 3) := by decide +kernel
theorem dX7_shoot_12 : decode cX7_shoot 12 = .ok (.invokevirtual 145, 3) := by decide +kernel
theorem dX7_shoot_15 : decode cX7_shoot 15 = .ok (.aload_n 0, 1) := by decide +kernel
theorem dX7_shoot_16 : decode cX7_shoot 16 = .ok (.getfield 12, 3) := by decide +kernel
theorem dX7_shoot_19 : decode cX7_shoot 19 = .ok (.getfield 71, 3) := by decide +kernel
theorem dX7_shoot_22 : decode cX7_shoot 22 = .ok (.ireturn, 1) := by decide +kernel
theorem dX7_forget_0 : decode cX7_forget 0 = .ok (.aload_n 0, 1) := by decide +kernel
theorem dX7_forget_1 : decode cX7_forget 1 = .ok (.getfield 12, 3) := by decide +kernel
theorem dX7_forget_4 : decode cX7_forget 4 = .ok (.iload_n 1, 1) := by decide +kernel
theorem dX7_forget_5 : decode cX7_forget 5 = .ok (.invokevirtual 149, 3) := by decide +kernel
theorem dX7_forget_8 : decode cX7_forget 8 = .ok (.ifnonnull 6, 3) := by decide +kernel
theorem dX7_forget_11 : decode cX7_forget 11 = .ok (.ldc 60, 2) := by decide +kernel
theorem dX7_forget_13 : decode cX7_forget 13 = .ok (.ireturn, 1) := by decide +kernel
theorem dX7_forget_14 : decode cX7_forget 14 = .ok (.aload_n 0, 1) := by decide +kernel
theorem dX7_forget_15 : decode cX7_forget 15 = .ok (.invokevirtual 75, 3) := by decide +kernel
theorem dX7_forget_18 : decode cX7_forget 18 = .ok (.aload_n 0, 1) := by decide +kernel
theorem dX7_forget_19 : decode cX7_forget 19 = .ok (.getfield 12, 3) := by decide +kernel
theorem dX7_forget_22 : decode cX7_forget 22 = .ok (.iload_n 1, 1) := by decide +kernel
theorem dX7_forget_23 : decode cX7_forget 23 = .ok (.invokevirtual 153, 3) := by decide +kernel
theorem dX7_forget_26 : decode cX7_forget 26 = .ok (.aload_n 0, 1) := by decide +kernel
theorem dX7_forget_27 : decode cX7_forget 27 = .ok (.getfield 12, 3) := by decide +kernel
theorem dX7_forget_30 : decode cX7_forget 30 = .ok (.getfield 71, 3) := by decide +kernel
theorem dX7_forget_33 : decode cX7_forget 33 = .ok (.ireturn, 1) := by decide +kernel
theorem dX7_frameOf_0 : decode cX7_frameOf 0 = .ok (.aload_n 0, 1) := by decide +kernel
theorem dX7_frameOf_1 : decode cX7_frameOf 1 = .ok (.getfield 12, 3) := by decide +kernel
theorem dX7_frameOf_4 : decode cX7_frameOf 4 = .ok (.iload_n 1, 1) := by decide +kernel
theorem dX7_frameOf_5 : decode cX7_frameOf 5 = .ok (.invokevirtual 149, 3) := by decide +kernel
theorem dX7_frameOf_8 : decode cX7_frameOf 8 = .ok (.astore_n 3, 1) := by decide +kernel
theorem dX7_frameOf_9 : decode cX7_frameOf 9 = .ok (.aload_n 3, 1) := by decide +kernel
theorem dX7_frameOf_10 : decode cX7_frameOf 10 = .ok (.ifnull 12, 3) := by decide +kernel
theorem dX7_frameOf_13 : decode cX7_frameOf 13 = .ok (.iload_n 2, 1) := by decide +kernel
theorem dX7_frameOf_14 : decode cX7_frameOf 14 = .ok (.iconst 0, 1) := by decide +kernel
theorem dX7_frameOf_15 : decode cX7_frameOf 15 = .ok (.iconst 2, 1) := by decide +kernel
theorem dX7_frameOf_16 : decode cX7_frameOf 16 = .ok (.invokestatic 56, 3) := by decide +kernel
theorem dX7_frameOf_19 : decode cX7_frameOf 19 = .ok (.ifCond .ne 6, 3) := by decide +kernel
theorem dX7_frameOf_22 : decode cX7_frameOf 22 = .ok (.ldc 60, 2) := by decide +kernel
theorem dX7_frameOf_24 : decode cX7_frameOf 24 = .ok (.ireturn, 1) := by decide +kernel
theorem dX7_frameOf_25 : decode cX7_frameOf 25 = .ok (.iload_n 2, 1) := by decide +kernel
theorem dX7_frameOf_26 : decode cX7_frameOf 26 = .ok (.ifCond .ne 8, 3) := by decide +kernel
theorem dX7_frameOf_29 : decode cX7_frameOf 29 = .ok (.aload_n 3, 1) := by decide +kernel
theorem dX7_frameOf_30 : decode cX7_frameOf 30 = .ok (.getfield 157, 3) := by decide +kernel
theorem dX7_frameOf_33 : decode cX7_frameOf 33 = .ok (.ireturn, 1) := by decide +kernel
theorem dX7_frameOf_34 : decode cX7_frameOf 34 = .ok (.iload_n 2, 1) := by decide +kernel
theorem dX7_frameOf_35 : decode cX7_frameOf 35 = .ok (.iconst 1, 1) := by decide +kernel
theorem dX7_frameOf_36 : decode cX7_frameOf 36 = .ok (.if_icmp .ne 10, 3) := by decide +kernel
theorem dX7_frameOf_39 : decode cX7_frameOf 39 = .ok (.aload_n 3, 1) := by decide +kernel
theorem dX7_frameOf_40 : decode cX7_frameOf 40 = .ok (.getfield 158, 3) := by decide +kernel
theorem dX7_frameOf_43 : decode cX7_frameOf 43 = .ok (.goto 8, 3) := by decide +kernel
theorem dX7_frameOf_46 : decode cX7_frameOf 46 = .ok (.aload_n 0, 1) := by decide +kernel
theorem dX7_frameOf_47 : decode cX7_frameOf 47 = .ok (.aload_n 3, 1) := by decide +kernel
theorem dX7_frameOf_48 : decode cX7_frameOf 48 = .ok (.invokevirtual 159, 3) := by decide +kernel
theorem dX7_frameOf_51 : decode cX7_frameOf 51 = .ok (.ireturn, 1) := by decide +kernel
theorem dX7_pixel_0 : decode cX7_pixel 0 = .ok (.aload_n 0, 1) := by decide +kernel
theorem dX7_pixel_1 : decode cX7_pixel 1 = .ok (.getfield 12, 3) := by decide +kernel
theorem dX7_pixel_4 : decode cX7_pixel 4 = .ok (.iload_n 1, 1) := by decide +kernel
theorem dX7_pixel_5 : decode cX7_pixel 5 = .ok (.invokevirtual 149, 3) := by decide +kernel
theorem dX7_pixel_8 : decode cX7_pixel 8 = .ok (.astore 4, 2) := by decide +kernel
theorem dX7_pixel_10 : decode cX7_pixel 10 = .ok (.aload 4, 2) := by decide +kernel
theorem dX7_pixel_12 : decode cX7_pixel 12 = .ok (.ifnull 12, 3) := by decide +kernel
theorem dX7_pixel_15 : decode cX7_pixel 15 = .ok (.aload_n 0, 1) := by decide +kernel
theorem dX7_pixel_16 : decode cX7_pixel 16 = .ok (.iload_n 2, 1) := by decide +kernel
theorem dX7_pixel_17 : decode cX7_pixel 17 = .ok (.iload_n 3, 1) := by decide +kernel
theorem dX7_pixel_18 : decode cX7_pixel 18 = .ok (.invokevirtual 131, 3) := by decide +kernel
theorem dX7_pixel_21 : decode cX7_pixel 21 = .ok (.ifCond .ne 6, 3) := by decide +kernel
theorem dX7_pixel_24 : decode cX7_pixel 24 = .ok (.ldc 60, 2) := by decide +kernel
theorem dX7_pixel_26 : decode cX7_pixel 26 = .ok (.ireturn, 1) := by decide +kernel
theorem dX7_pixel_27 : decode cX7_pixel 27 = .ok (.aload 4, 2) := by decide +kernel
theorem dX7_pixel_29 : decode cX7_pixel 29 = .ok (.getfield 158, 3) := by decide +kernel
theorem dX7_pixel_32 : decode cX7_pixel 32 = .ok (.iload_n 2, 1) := by decide +kernel
theorem dX7_pixel_33 : decode cX7_pixel 33 = .ok (.invokestatic 122, 3) := by decide +kernel
theorem dX7_pixel_36 : decode cX7_pixel 36 = .ok (.ifCond .eq 8, 3) := by decide +kernel
theorem dX7_pixel_39 : decode cX7_pixel 39 = .ok (.ldc 163, 2) := by decide +kernel
theorem dX7_pixel_41 : decode cX7_pixel 41 = .ok (.goto 10, 3) := by decide +kernel
theorem dX7_pixel_44 : decode cX7_pixel 44 = .ok (.aload 4, 2) := by decide +kernel
theorem dX7_pixel_46 : decode cX7_pixel 46 = .ok (.iload_n 2, 1) := by decide +kernel
theorem dX7_pixel_47 : decode cX7_pixel 47 = .ok (.iload_n 3, 1) := by decide +kernel
theorem dX7_pixel_48 : decode cX7_pixel 48 = .ok (.invokevirtual 164, 3) := by decide +kernel
theorem dX7_pixel_51 : decode cX7_pixel 51 = .ok (.ireturn, 1) := by decide +kernel
theorem dX7_edges_0 : decode cX7_edges 0 = .ok (.aload_n 0, 1) := by decide +kernel
theorem dX7_edges_1 : decode cX7_edges 1 = .ok (.getfield 12, 3) := by decide +kernel
theorem dX7_edges_4 : decode cX7_edges 4 = .ok (.iload_n 1, 1) := by decide +kernel
theorem dX7_edges_5 : decode cX7_edges 5 = .ok (.invokevirtual 149, 3) := by decide +kernel
theorem dX7_edges_8 : decode cX7_edges 8 = .ok (.astore_n 3, 1) := by decide +kernel
theorem dX7_edges_9 : decode cX7_edges 9 = .ok (.aload_n 3, 1) := by decide +kernel
theorem dX7_edges_10 : decode cX7_edges 10 = .ok (.ifnull 12, 3) := by decide +kernel
theorem dX7_edges_13 : decode cX7_edges 13 = .ok (.aload_n 0, 1) := by decide +kernel
theorem dX7_edges_14 : decode cX7_edges 14 = .ok (.iload_n 2, 1) := by decide +kernel
theorem dX7_edges_15 : decode cX7_edges 15 = .ok (.iconst 0, 1) := by decide +kernel
theorem dX7_edges_16 : decode cX7_edges 16 = .ok (.invokevirtual 131, 3) := by decide +kernel
theorem dX7_edges_19 : decode cX7_edges 19 = .ok (.ifCond .ne 6, 3) := by decide +kernel
theorem dX7_edges_22 : decode cX7_edges 22 = .ok (.ldc 60, 2) := by decide +kernel
theorem dX7_edges_24 : decode cX7_edges 24 = .ok (.ireturn, 1) := by decide +kernel
theorem dX7_edges_25 : decode cX7_edges 25 = .ok (.aload_n 3, 1) := by decide +kernel
theorem dX7_edges_26 : decode cX7_edges 26 = .ok (.getfield 158, 3) := by decide +kernel
theorem dX7_edges_29 : decode cX7_edges 29 = .ok (.iload_n 2, 1) := by decide +kernel
theorem dX7_edges_30 : decode cX7_edges 30 = .ok (.invokestatic 122, 3) := by decide +kernel
theorem dX7_edges_33 : decode cX7_edges 33 = .ok (.ifCond .eq 8, 3) := by decide +kernel
theorem dX7_edges_36 : decode cX7_edges 36 = .ok (.ldc 163, 2) := by decide +kernel
theorem dX7_edges_38 : decode cX7_edges 38 = .ok (.goto 12, 3) := by decide +kernel
theorem dX7_edges_41 : decode cX7_edges 41 = .ok (.aload_n 0, 1) := by decide +kernel
theorem dX7_edges_42 : decode cX7_edges 42 = .ok (.getfield 12, 3) := by decide +kernel
theorem dX7_edges_45 : decode cX7_edges 45 = .ok (.aload_n 3, 1) := by decide +kernel
theorem dX7_edges_46 : decode cX7_edges 46 = .ok (.iload_n 2, 1) := by decide +kernel
theorem dX7_edges_47 : decode cX7_edges 47 = .ok (.invokevirtual 167, 3) := by decide +kernel
theorem dX7_edges_50 : decode cX7_edges 50 = .ok (.ireturn, 1) := by decide +kernel
theorem dX7_pass_0 : decode cX7_pass 0 = .ok (.iload_n 1, 1) := by decide +kernel
theorem dX7_pass_1 : decode cX7_pass 1 = .ok (.iconst 1, 1) := by decide +kernel
theorem dX7_pass_2 : decode cX7_pass 2 = .ok (.sipush 200, 3) := by decide +kernel
theorem dX7_pass_5 : decode cX7_pass 5 = .ok (.invokestatic 56, 3) := by decide +kernel
theorem dX7_pass_8 : decode cX7_pass 8 = .ok (.ifCond .ne 6, 3) := by decide +kernel
theorem dX7_pass_11 : decode cX7_pass 11 = .ok (.ldc 60, 2) := by decide +kernel
theorem dX7_pass_13 : decode cX7_pass 13 = .ok (.ireturn, 1) := by decide +kernel
theorem dX7_pass_14 : decode cX7_pass 14 = .ok (.aload_n 0, 1) := by decide +kernel
theorem dX7_pass_15 : decode cX7_pass 15 = .ok (.getfield 12, 3) := by decide +kernel
theorem dX7_pass_18 : decode cX7_pass 18 = .ok (.getfield 107, 3) := by decide +kernel
theorem dX7_pass_21 : decode cX7_pass 21 = .ok (.iload_n 1, 1) := by decide +kernel
theorem dX7_pass_22 : decode cX7_pass 22 = .ok (.iadd, 1) := by decide +kernel
theorem dX7_pass_23 : decode cX7_pass 23 = .ok (.sipush 20000, 3) := by decide +kernel
theorem dX7_pass_26 : decode cX7_pass 26 = .ok (.if_icmp .le 6, 3) := by decide +kernel
theorem dX7_pass_29 : decode cX7_pass 29 = .ok (.ldc 93, 2) := by decide +kernel
theorem dX7_pass_31 : decode cX7_pass 31 = .ok (.ireturn, 1) := by decide +kernel
theorem dX7_pass_32 : decode cX7_pass 32 = .ok (.aload_n 0, 1) := by decide +kernel
theorem dX7_pass_33 : decode cX7_pass 33 = .ok (.invokevirtual 75, 3) := by decide +kernel
theorem dX7_pass_36 : decode cX7_pass 36 = .ok (.aload_n 0, 1) := by decide +kernel
theorem dX7_pass_37 : decode cX7_pass 37 = .ok (.getfield 12, 3) := by decide +kernel
theorem dX7_pass_40 : decode cX7_pass 40 = .ok (.dup, 1) := by decide +kernel
theorem dX7_pass_41 : decode cX7_pass 41 = .ok (.getfield 107, 3) := by decide +kernel
theorem dX7_pass_44 : decode cX7_pass 44 = .ok (.iload_n 1, 1) := by decide +kernel
theorem dX7_pass_45 : decode cX7_pass 45 = .ok (.iadd, 1) := by decide +kernel
theorem dX7_pass_46 : decode cX7_pass 46 = .ok (.putfield 107, 3) := by decide +kernel
theorem dX7_pass_49 : decode cX7_pass 49 = .ok (.aload_n 0, 1) := by decide +kernel
theorem dX7_pass_50 : decode cX7_pass 50 = .ok (.getfield 12, 3) := by decide +kernel
theorem dX7_pass_53 : decode cX7_pass 53 = .ok (.getfield 107, 3) := by decide +kernel
theorem dX7_pass_56 : decode cX7_pass 56 = .ok (.ireturn, 1) := by decide +kernel
theorem dX7_rowOf_0 : decode cX7_rowOf 0 = .ok (.iload_n 1, 1) := by decide +kernel
theorem dX7_rowOf_1 : decode cX7_rowOf 1 = .ok (.iconst 0, 1) := by decide +kernel
theorem dX7_rowOf_2 : decode cX7_rowOf 2 = .ok (.bipush 9, 2) := by decide +kernel
theorem dX7_rowOf_4 : decode cX7_rowOf 4 = .ok (.invokestatic 56, 3) := by decide +kernel
theorem dX7_rowOf_7 : decode cX7_rowOf 7 = .ok (.ifCond .eq 12, 3) := by decide +kernel
theorem dX7_rowOf_10 : decode cX7_rowOf 10 = .ok (.iload_n 2, 1) := by decide +kernel
theorem dX7_rowOf_11 : decode cX7_rowOf 11 = .ok (.iconst 0, 1) := by decide +kernel
theorem dX7_rowOf_12 : decode cX7_rowOf 12 = .ok (.iconst 3, 1) := by decide +kernel
theorem dX7_rowOf_13 : decode cX7_rowOf 13 = .ok (.invokestatic 56, 3) := by decide +kernel
theorem dX7_rowOf_16 : decode cX7_rowOf 16 = .ok (.ifCond .ne 6, 3) := by decide +kernel
theorem dX7_rowOf_19 : decode cX7_rowOf 19 = .ok (.ldc 60, 2) := by decide +kernel
theorem dX7_rowOf_21 : decode cX7_rowOf 21 = .ok (.ireturn, 1) := by decide +kernel
theorem dX7_rowOf_22 : decode cX7_rowOf 22 = .ok (.iload_n 2, 1) := by decide +kernel
theorem dX7_rowOf_23 : decode cX7_rowOf 23 = .ok (.ifCond .ne 23, 3) := by decide +kernel
theorem dX7_rowOf_26 : decode cX7_rowOf 26 = .ok (.aload_n 0, 1) := by decide +kernel
theorem dX7_rowOf_27 : decode cX7_rowOf 27 = .ok (.getfield 12, 3) := by decide +kernel
theorem dX7_rowOf_30 : decode cX7_rowOf 30 = .ok (.getfield 119, 3) := by decide +kernel
theorem dX7_rowOf_33 : decode cX7_rowOf 33 = .ok (.iload_n 1, 1) := by decide +kernel
theorem dX7_rowOf_34 : decode cX7_rowOf 34 = .ok (.invokestatic 122, 3) := by decide +kernel
theorem dX7_rowOf_37 : decode cX7_rowOf 37 = .ok (.ifCond .eq 7, 3) := by decide +kernel
theorem dX7_rowOf_40 : decode cX7_rowOf 40 = .ok (.iconst 1, 1) := by decide +kernel
theorem dX7_rowOf_41 : decode cX7_rowOf 41 = .ok (.goto 4, 3) := by decide +kernel
theorem dX7_rowOf_44 : decode cX7_rowOf 44 = .ok (.iconst 0, 1) := by decide +kernel
theorem dX7_rowOf_45 : decode cX7_rowOf 45 = .ok (.ireturn, 1) := by decide +kernel
theorem dX7_rowOf_46 : decode cX7_rowOf 46 = .ok (.iload_n 2, 1) := by decide +kernel
theorem dX7_rowOf_47 : decode cX7_rowOf 47 = .ok (.iconst 3, 1) := by decide +kernel
theorem dX7_rowOf_48 : decode cX7_rowOf 48 = .ok (.if_icmp .ne 12, 3) := by decide +kernel
theorem dX7_rowOf_51 : decode cX7_rowOf 51 = .ok (.aload_n 0, 1) := by decide +kernel
theorem dX7_rowOf_52 : decode cX7_rowOf 52 = .ok (.getfield 12, 3) := by decide +kernel
theorem dX7_rowOf_55 : decode cX7_rowOf 55 = .ok (.iload_n 1, 1) := by decide +kernel
theorem dX7_rowOf_56 : decode cX7_rowOf 56 = .ok (.invokevirtual 201, 3) := by decide +kernel
theorem dX7_rowOf_59 : decode cX7_rowOf 59 = .ok (.ireturn, 1) := by decide +kernel
theorem dX7_rowOf_60 : decode cX7_rowOf 60 = .ok (.iload_n 2, 1) := by decide +kernel
theorem dX7_rowOf_61 : decode cX7_rowOf 61 = .ok (.iconst 1, 1) := by decide +kernel
theorem dX7_rowOf_62 : decode cX7_rowOf 62 = .ok (.if_icmp .ne 13, 3) := by decide +kernel
theorem dX7_rowOf_65 : decode cX7_rowOf 65 = .ok (.aload_n 0, 1) := by decide +kernel
theorem dX7_rowOf_66 : decode cX7_rowOf 66 = .ok (.getfield 12, 3) := by decide +kernel
theorem dX7_rowOf_69 : decode cX7_rowOf 69 = .ok (.getfield 204, 3) := by decide +kernel
theorem dX7_rowOf_72 : decode cX7_rowOf 72 = .ok (.goto 10, 3) := by decide +kernel
theorem dX7_rowOf_75 : decode cX7_rowOf 75 = .ok (.aload_n 0, 1) := by decide +kernel
theorem dX7_rowOf_76 : decode cX7_rowOf 76 = .ok (.getfield 12, 3) := by decide +kernel
theorem dX7_rowOf_79 : decode cX7_rowOf 79 = .ok (.getfield 207, 3) := by decide +kernel
theorem dX7_rowOf_82 : decode cX7_rowOf 82 = .ok (.iload_n 1, 1) := by decide +kernel
theorem dX7_rowOf_83 : decode cX7_rowOf 83 = .ok (.invokestatic 64, 3) := by decide +kernel
theorem dX7_rowOf_86 : decode cX7_rowOf 86 = .ok (.ireturn, 1) := by decide +kernel
theorem dX7_motions_0 : decode cX7_motions 0 = .ok (.aload_n 0, 1) := by decide +kernel
theorem dX7_motions_1 : decode cX7_motions 1 = .ok (.getfield 12, 3) := by decide +kernel
theorem dX7_motions_4 : decode cX7_motions 4 = .ok (.iload_n 1, 1) := by decide +kernel
theorem dX7_motions_5 : decode cX7_motions 5 = .ok (.invokevirtual 98, 3) := by decide +kernel
theorem dX7_motions_8 : decode cX7_motions 8 = .ok (.ifnull 12, 3) := by decide +kernel
theorem dX7_motions_11 : decode cX7_motions 11 = .ok (.iload_n 2, 1) := by decide +kernel
theorem dX7_motions_12 : decode cX7_motions 12 = .ok (.iconst 0, 1) := by decide +kernel
theorem dX7_motions_13 : decode cX7_motions 13 = .ok (.iconst 4, 1) := by decide +kernel
theorem dX7_motions_14 : decode cX7_motions 14 = .ok (.invokestatic 56, 3) := by decide +kernel
theorem dX7_motions_17 : decode cX7_motions 17 = .ok (.ifCond .ne 6, 3) := by decide +kernel
theorem dX7_motions_20 : decode cX7_motions 20 = .ok (.ldc 60, 2) := by decide +kernel
theorem dX7_motions_22 : decode cX7_motions 22 = .ok (.ireturn, 1) := by decide +kernel
theorem dX7_motions_23 : decode cX7_motions 23 = .ok (.aload_n 0, 1) := by decide +kernel
theorem dX7_motions_24 : decode cX7_motions 24 = .ok (.getfield 41, 3) := by decide +kernel
theorem dX7_motions_27 : decode cX7_motions 27 = .ok (.aload_n 0, 1) := by decide +kernel
theorem dX7_motions_28 : decode cX7_motions 28 = .ok (.getfield 12, 3) := by decide +kernel
theorem dX7_motions_31 : decode cX7_motions 31 = .ok (.iload_n 1, 1) := by decide +kernel
theorem dX7_motions_32 : decode cX7_motions 32 = .ok (.invokevirtual 226, 3) := by decide +kernel
theorem dX7_motions_35 : decode cX7_motions 35 = .ok (.iload_n 2, 1) := by decide +kernel
theorem dX7_motions_36 : decode cX7_motions 36 = .ok (.ifCond .le 18, 3) := by decide +kernel
theorem dX7_motions_39 : decode cX7_motions 39 = .ok (.aload_n 0, 1) := by decide +kernel
theorem dX7_motions_40 : decode cX7_motions 40 = .ok (.getfield 41, 3) := by decide +kernel
theorem dX7_motions_43 : decode cX7_motions 43 = .ok (.invokevirtual 230, 3) := by decide +kernel
theorem dX7_motions_46 : decode cX7_motions 46 = .ok (.ifCond .eq 8, 3) := by decide +kernel
theorem dX7_motions_49 : decode cX7_motions 49 = .ok (.ldc 163, 2) := by decide +kernel
theorem dX7_motions_51 : decode cX7_motions 51 = .ok (.goto 11, 3) := by decide +kernel
theorem dX7_motions_54 : decode cX7_motions 54 = .ok (.aload_n 0, 1) := by decide +kernel
theorem dX7_motions_55 : decode cX7_motions 55 = .ok (.getfield 41, 3) := by decide +kernel
theorem dX7_motions_58 : decode cX7_motions 58 = .ok (.iload_n 2, 1) := by decide +kernel
theorem dX7_motions_59 : decode cX7_motions 59 = .ok (.invokevirtual 234, 3) := by decide +kernel
theorem dX7_motions_62 : decode cX7_motions 62 = .ok (.ireturn, 1) := by decide +kernel
theorem dX7_periods_0 : decode cX7_periods 0 = .ok (.ldc 237, 2) := by decide +kernel
theorem dX7_periods_2 : decode cX7_periods 2 = .ok (.istore_n 1, 1) := by decide +kernel
theorem dX7_periods_3 : decode cX7_periods 3 = .ok (.iconst 0, 1) := by decide +kernel
theorem dX7_periods_4 : decode cX7_periods 4 = .ok (.istore_n 2, 1) := by decide +kernel
theorem dX7_periods_5 : decode cX7_periods 5 = .ok (.iload_n 2, 1) := by decide +kernel
theorem dX7_periods_6 : decode cX7_periods 6 = .ok (.aload_n 0, 1) := by decide +kernel
theorem dX7_periods_7 : decode cX7_periods 7 = .ok (.getfield 12, 3) := by decide +kernel
theorem dX7_periods_10 : decode cX7_periods 10 = .ok (.getfield 71, 3) := by decide +kernel
theorem dX7_periods_13 : decode cX7_periods 13 = .ok (.if_icmp .ge 30, 3) := by decide +kernel
theorem dX7_periods_16 : decode cX7_periods 16 = .ok (.aload_n 0, 1) := by decide +kernel
theorem dX7_periods_17 : decode cX7_periods 17 = .ok (.getfield 12, 3) := by decide +kernel
theorem dX7_periods_20 : decode cX7_periods 20 = .ok (.iload_n 2, 1) := by decide +kernel
theorem dX7_periods_21 : decode cX7_periods 21 = .ok (.invokevirtual 149, 3) := by decide +kernel
theorem dX7_periods_24 : decode cX7_periods 24 = .ok (.astore_n 3, 1) := by decide +kernel
theorem dX7_periods_25 : decode cX7_periods 25 = .ok (.aload_n 3, 1) := by decide +kernel
theorem dX7_periods_26 : decode cX7_periods 26 = .ok (.ifnull 11, 3) := by decide +kernel
theorem dX7_periods_29 : decode cX7_periods 29 = .ok (.iload_n 1, 1) := by decide +kernel
theorem dX7_periods_30 : decode cX7_periods 30 = .ok (.aload_n 0, 1) := by decide +kernel
theorem dX7_periods_31 : decode cX7_periods 31 = .ok (.aload_n 3, 1) := by decide +kernel
theorem dX7_periods_32 : decode cX7_periods 32 = .ok (.invokevirtual 238, 3) := by decide +kernel
theorem dX7_periods_35 : decode cX7_periods 35 = .ok (.iand, 1) := by decide +kernel
theorem dX7_periods_36 : decode cX7_periods 36 = .ok (.istore_n 1, 1) := by decide +kernel
theorem dX7_periods_37 : decode cX7_periods 37 = .ok (.iinc 2 1, 3) := by decide +kernel
theorem dX7_periods_40 : decode cX7_periods 40 = .ok (.goto (-35), 3) := by decide +kernel
theorem dX7_periods_43 : decode cX7_periods 43 = .ok (.iload_n 1, 1) := by decide +kernel
theorem dX7_periods_44 : decode cX7_periods 44 = .ok (.ireturn, 1) := by decide +kernel
theorem dX7_fitting_0 : decode cX7_fitting 0 = .ok (.aload_n 0, 1) := by decide +kernel
theorem dX7_fitting_1 : decode cX7_fitting 1 = .ok (.getfield 12, 3) := by decide +kernel
theorem dX7_fitting_4 : decode cX7_fitting 4 = .ok (.iload_n 1, 1) := by decide +kernel
theorem dX7_fitting_5 : decode cX7_fitting 5 = .ok (.invokevirtual 149, 3) := by decide +kernel
theorem dX7_fitting_8 : decode cX7_fitting 8 = .ok (.astore_n 2, 1) := by decide +kernel
theorem dX7_fitting_9 : decode cX7_fitting 9 = .ok (.aload_n 2, 1) := by decide +kernel
theorem dX7_fitting_10 : decode cX7_fitting 10 = .ok (.ifnonnull 6, 3) := by decide +kernel
theorem dX7_fitting_13 : decode cX7_fitting 13 = .ok (.ldc 60, 2) := by decide +kernel
theorem dX7_fitting_15 : decode cX7_fitting 15 = .ok (.ireturn, 1) := by decide +kernel
theorem dX7_fitting_16 : decode cX7_fitting 16 = .ok (.iconst 0, 1) := by decide +kernel
theorem dX7_fitting_17 : decode cX7_fitting 17 = .ok (.istore_n 3, 1) := by decide +kernel
theorem dX7_fitting_18 : decode cX7_fitting 18 = .ok (.iconst 0, 1) := by decide +kernel
theorem dX7_fitting_19 : decode cX7_fitting 19 = .ok (.istore 4, 2) := by decide +kernel
theorem dX7_fitting_21 : decode cX7_fitting 21 = .ok (.iload 4, 2) := by decide +kernel
theorem dX7_fitting_23 : decode cX7_fitting 23 = .ok (.aload_n 0, 1) := by decide +kernel
theorem dX7_fitting_24 : decode cX7_fitting 24 = .ok (.getfield 12, 3) := by decide +kernel
theorem dX7_fitting_27 : decode cX7_fitting 27 = .ok (.iconst 0, 1) := by decide +kernel
theorem dX7_fitting_28 : decode cX7_fitting 28 = .ok (.invokevirtual 78, 3) := by decide +kernel
theorem dX7_fitting_31 : decode cX7_fitting 31 = .ok (.if_icmp .ge 59, 3) := by decide +kernel
theorem dX7_fitting_34 : decode cX7_fitting 34 = .ok (.aload_n 0, 1) := by decide +kernel
theorem dX7_fitting_35 : decode cX7_fitting 35 = .ok (.getfield 12, 3) := by decide +kernel
theorem dX7_fitting_38 : decode cX7_fitting 38 = .ok (.aload_n 2, 1) := by decide +kernel
theorem dX7_fitting_39 : decode cX7_fitting 39 = .ok (.iload 4, 2) := by decide +kernel
theorem dX7_fitting_41 : decode cX7_fitting 41 = .ok (.invokevirtual 241, 3) := by decide +kernel
theorem dX7_fitting_44 : decode cX7_fitting 44 = .ok (.istore 5, 2) := by decide +kernel
theorem dX7_fitting_46 : decode cX7_fitting 46 = .ok (.aload_n 2, 1) := by decide +kernel
theorem dX7_fitting_47 : decode cX7_fitting 47 = .ok (.getfield 158, 3) := by decide +kernel
theorem dX7_fitting_50 : decode cX7_fitting 50 = .ok (.iload 4, 2) := by decide +kernel
theorem dX7_fitting_52 : decode cX7_fitting 52 = .ok (.invokestatic 122, 3) := by decide +kernel
theorem dX7_fitting_55 : decode cX7_fitting 55 = .ok (.ifCond .ne 29, 3) := by decide +kernel
theorem dX7_fitting_58 : decode cX7_fitting 58 = .ok (.aload_n 0, 1) := by decide +kernel
theorem dX7_fitting_59 : decode cX7_fitting 59 = .ok (.aload_n 2, 1) := by decide +kernel
theorem dX7_fitting_60 : decode cX7_fitting 60 = .ok (.iload 4, 2) := by decide +kernel
theorem dX7_fitting_62 : decode cX7_fitting 62 = .ok (.aload_n 0, 1) := by decide +kernel
theorem dX7_fitting_63 : decode cX7_fitting 63 = .ok (.getfield 12, 3) := by decide +kernel
theorem dX7_fitting_66 : decode cX7_fitting 66 = .ok (.iload 5, 2) := by decide +kernel
theorem dX7_fitting_68 : decode cX7_fitting 68 = .ok (.invokevirtual 138, 3) := by decide +kernel
theorem dX7_fitting_71 : decode cX7_fitting 71 = .ok (.invokevirtual 244, 3) := by decide +kernel
theorem dX7_fitting_74 : decode cX7_fitting 74 = .ok (.ifCond .eq 10, 3) := by decide +kernel
theorem dX7_fitting_77 : decode cX7_fitting 77 = .ok (.iload_n 3, 1) := by decide +kernel
theorem dX7_fitting_78 : decode cX7_fitting 78 = .ok (.iconst 1, 1) := by decide +kernel
theorem dX7_fitting_79 : decode cX7_fitting 79 = .ok (.iload 4, 2) := by decide +kernel
theorem dX7_fitting_81 : decode cX7_fitting 81 = .ok (.ishl, 1) := by decide +kernel
theorem dX7_fitting_82 : decode cX7_fitting 82 = .ok (.ior, 1) := by decide +kernel
theorem dX7_fitting_83 : decode cX7_fitting 83 = .ok (.istore_n 3, 1) := by decide +kernel
theorem dX7_fitting_84 : decode cX7_fitting 84 = .ok (.iinc 4 1, 3) := by decide +kernel
theorem dX7_fitting_87 : decode cX7_fitting 87 = .ok (.goto (-66), 3) := by decide +kernel
theorem dX7_fitting_90 : decode cX7_fitting 90 = .ok (.iload_n 3, 1) := by decide +kernel
theorem dX7_fitting_91 : decode cX7_fitting 91 = .ok (.ireturn, 1) := by decide +kernel
theorem dX7_count_0 : decode cX7_count 0 = .ok (.iload_n 1, 1) := by decide +kernel
theorem dX7_count_1 : decode cX7_count 1 = .ok (.bipush 10, 2) := by decide +kernel
theorem dX7_count_3 : decode cX7_count 3 = .ok (.bipush 17, 2) := by decide +kernel
theorem dX7_count_5 : decode cX7_count 5 = .ok (.invokestatic 56, 3) := by decide +kernel
theorem dX7_count_8 : decode cX7_count 8 = .ok (.ifCond .eq 15, 3) := by decide +kernel
theorem dX7_count_11 : decode cX7_count 11 = .ok (.aload_n 0, 1) := by decide +kernel
theorem dX7_count_12 : decode cX7_count 12 = .ok (.getfield 12, 3) := by decide +kernel
theorem dX7_count_15 : decode cX7_count 15 = .ok (.iload_n 1, 1) := by decide +kernel
theorem dX7_count_16 : decode cX7_count 16 = .ok (.bipush 10, 2) := by decide +kernel
theorem dX7_count_18 : decode cX7_count 18 = .ok (.isub, 1) := by decide +kernel
theorem dX7_count_19 : decode cX7_count 19 = .ok (.invokevirtual 78, 3) := by decide +kernel
theorem dX7_count_22 : decode cX7_count 22 = .ok (.ireturn, 1) := by decide +kernel
theorem dX7_count_23 : decode cX7_count 23 = .ok (.iload_n 1, 1) := by decide +kernel
theorem dX7_count_24 : decode cX7_count 24 = .ok (.tableswitch 140 0 7 #[48, 56, 64, 72, 83, 91, 127, 132], 48) := by decide +kernel
theorem dX7_count_72 : decode cX7_count 72 = .ok (.aload_n 0, 1) := by decide +kernel
theorem dX7_count_73 : decode cX7_count 73 = .ok (.getfield 12, 3) := by decide +kernel
theorem dX7_count_76 : decode cX7_count 76 = .ok (.getfield 90, 3) := by decide +kernel
theorem dX7_count_79 : decode cX7_count 79 = .ok (.ireturn, 1) := by decide +kernel
theorem dX7_count_80 : decode cX7_count 80 = .ok (.aload_n 0, 1) := by decide +kernel
theorem dX7_count_81 : decode cX7_count 81 = .ok (.getfield 12, 3) := by decide +kernel
theorem dX7_count_84 : decode cX7_count 84 = .ok (.getfield 71, 3) := by decide +kernel
theorem dX7_count_87 : decode cX7_count 87 = .ok (.ireturn, 1) := by decide +kernel
theorem dX7_count_88 : decode cX7_count 88 = .ok (.aload_n 0, 1) := by decide +kernel
theorem dX7_count_89 : decode cX7_count 89 = .ok (.getfield 12, 3) := by decide +kernel
theorem dX7_count_92 : decode cX7_count 92 = .ok (.getfield 107, 3) := by decide +kernel
theorem dX7_count_95 : decode cX7_count 95 = .ok (.ireturn, 1) := by decide +kernel
theorem dX7_count_96 : decode cX7_count 96 = .ok (.aload_n 0, 1) := by decide +kernel
theorem dX7_count_97 : decode cX7_count 97 = .ok (.getfield 12, 3) := by decide +kernel
theorem dX7_count_100 : decode cX7_count 100 = .ok (.getfield 119, 3) := by decide +kernel
theorem dX7_count_103 : decode cX7_count 103 = .ok (.invokestatic 126, 3) := by decide +kernel
theorem dX7_count_106 : decode cX7_count 106 = .ok (.ireturn, 1) := by decide +kernel
theorem dX7_count_107 : decode cX7_count 107 = .ok (.aload_n 0, 1) := by decide +kernel
theorem dX7_count_108 : decode cX7_count 108 = .ok (.getfield 12, 3) := by decide +kernel
theorem dX7_count_111 : decode cX7_count 111 = .ok (.getfield 248, 3) := by decide +kernel
theorem dX7_count_114 : decode cX7_count 114 = .ok (.ireturn, 1) := by decide +kernel
theorem dX7_count_115 : decode cX7_count 115 = .ok (.aload_n 0, 1) := by decide +kernel
theorem dX7_count_116 : decode cX7_count 116 = .ok (.getfield 12, 3) := by decide +kernel
theorem dX7_count_119 : decode cX7_count 119 = .ok (.getfield 107, 3) := by decide +kernel
theorem dX7_count_122 : decode cX7_count 122 = .ok (.aload_n 0, 1) := by decide +kernel
theorem dX7_count_123 : decode cX7_count 123 = .ok (.getfield 12, 3) := by decide +kernel
theorem dX7_count_126 : decode cX7_count 126 = .ok (.iconst 5, 1) := by decide +kernel
theorem dX7_count_127 : decode cX7_count 127 = .ok (.invokevirtual 78, 3) := by decide +kernel
theorem dX7_count_130 : decode cX7_count 130 = .ok (.aload_n 0, 1) := by decide +kernel
theorem dX7_count_131 : decode cX7_count 131 = .ok (.getfield 12, 3) := by decide +kernel
theorem dX7_count_134 : decode cX7_count 134 = .ok (.bipush 6, 2) := by decide +kernel
theorem dX7_count_136 : decode cX7_count 136 = .ok (.invokevirtual 78, 3) := by decide +kernel
theorem dX7_count_139 : decode cX7_count 139 = .ok (.invokestatic 251, 3) := by decide +kernel
theorem dX7_count_142 : decode cX7_count 142 = .ok (.ifCond .eq 7, 3) := by decide +kernel
theorem dX7_count_145 : decode cX7_count 145 = .ok (.iconst 1, 1) := by decide +kernel
theorem dX7_count_146 : decode cX7_count 146 = .ok (.goto 4, 3) := by decide +kernel
theorem dX7_count_149 : decode cX7_count 149 = .ok (.iconst 0, 1) := by decide +kernel
theorem dX7_count_150 : decode cX7_count 150 = .ok (.ireturn, 1) := by decide +kernel
theorem dX7_count_151 : decode cX7_count 151 = .ok (.aload_n 0, 1) := by decide +kernel
theorem dX7_count_152 : decode cX7_count 152 = .ok (.getfield 20, 3) := by decide +kernel
theorem dX7_count_155 : decode cX7_count 155 = .ok (.ireturn, 1) := by decide +kernel
theorem dX7_count_156 : decode cX7_count 156 = .ok (.aload_n 0, 1) := by decide +kernel
theorem dX7_count_157 : decode cX7_count 157 = .ok (.getfield 27, 3) := by decide +kernel
theorem dX7_count_160 : decode cX7_count 160 = .ok (.getfield 254, 3) := by decide +kernel
theorem dX7_count_163 : decode cX7_count 163 = .ok (.ireturn, 1) := by decide +kernel
theorem dX7_count_164 : decode cX7_count 164 = .ok (.ldc 60, 2) := by decide +kernel
theorem dX7_count_166 : decode cX7_count 166 = .ok (.ireturn, 1) := by decide +kernel
theorem dX7_undo_0 : decode cX7_undo 0 = .ok (.aload_n 0, 1) := by decide +kernel
theorem dX7_undo_1 : decode cX7_undo 1 = .ok (.getfield 20, 3) := by decide +kernel
theorem dX7_undo_4 : decode cX7_undo 4 = .ok (.iconst 1, 1) := by decide +kernel
theorem dX7_undo_5 : decode cX7_undo 5 = .ok (.isub, 1) := by decide +kernel
theorem dX7_undo_6 : decode cX7_undo 6 = .ok (.istore_n 1, 1) := by decide +kernel
theorem dX7_undo_7 : decode cX7_undo 7 = .ok (.iload_n 1, 1) := by decide +kernel
theorem dX7_undo_8 : decode cX7_undo 8 = .ok (.ifCond .lt 12, 3) := by decide +kernel
theorem dX7_undo_11 : decode cX7_undo 11 = .ok (.iload_n 1, 1) := by decide +kernel
theorem dX7_undo_12 : decode cX7_undo 12 = .ok (.aload_n 0, 1) := by decide +kernel
theorem dX7_undo_13 : decode cX7_undo 13 = .ok (.getfield 16, 3) := by decide +kernel
theorem dX7_undo_16 : decode cX7_undo 16 = .ok (.arraylength, 1) := by decide +kernel
theorem dX7_undo_17 : decode cX7_undo 17 = .ok (.if_icmp .lt 6, 3) := by decide +kernel
theorem dX7_undo_20 : decode cX7_undo 20 = .ok (.ldc 74, 2) := by decide +kernel
theorem dX7_undo_22 : decode cX7_undo 22 = .ok (.ireturn, 1) := by decide +kernel
theorem dX7_undo_23 : decode cX7_undo 23 = .ok (.aload_n 0, 1) := by decide +kernel
theorem dX7_undo_24 : decode cX7_undo 24 = .ok (.getfield 12, 3) := by decide +kernel
theorem dX7_undo_27 : decode cX7_undo 27 = .ok (.aload_n 0, 1) := by decide +kernel
theorem dX7_undo_28 : decode cX7_undo 28 = .ok (.getfield 16, 3) := by decide +kernel
theorem dX7_undo_31 : decode cX7_undo 31 = .ok (.iload_n 1, 1) := by decide +kernel
theorem dX7_undo_32 : decode cX7_undo 32 = .ok (.aaload, 1) := by decide +kernel
theorem dX7_undo_33 : decode cX7_undo 33 = .ok (.invokevirtual 257, 3) := by decide +kernel
theorem dX7_undo_36 : decode cX7_undo 36 = .ok (.aload_n 0, 1) := by decide +kernel
theorem dX7_undo_37 : decode cX7_undo 37 = .ok (.iload_n 1, 1) := by decide +kernel
theorem dX7_undo_38 : decode cX7_undo 38 = .ok (.putfield 20, 3) := by decide +kernel
theorem dX7_undo_41 : decode cX7_undo 41 = .ok (.aload_n 0, 1) := by decide +kernel
theorem dX7_undo_42 : decode cX7_undo 42 = .ok (.getfield 20, 3) := by decide +kernel
theorem dX7_undo_45 : decode cX7_undo 45 = .ok (.ireturn, 1) := by decide +kernel
theorem dX7_recordState_0 : decode cX7_recordState 0 = .ok (.aload_n 0, 1) := by decide +kernel
theorem dX7_recordState_1 : decode cX7_recordState 1 = .ok (.getfield 20, 3) := by decide +kernel
theorem dX7_recordState_4 : decode cX7_recordState 4 = .ok (.aload_n 0, 1) := by decide +kernel
theorem dX7_recordState_5 : decode cX7_recordState 5 = .ok (.getfield 16, 3) := by decide +kernel
theorem dX7_recordState_8 : decode cX7_recordState 8 = .ok (.arraylength, 1) := by decide +kernel
theorem dX7_recordState_9 : decode cX7_recordState 9 = .ok (.if_icmp .lt 7, 3) := by decide +kernel
theorem dX7_recordState_12 : decode cX7_recordState 12 = .ok (.aload_n 0, 1) := by decide +kernel
theorem dX7_recordState_13 : decode cX7_recordState 13 = .ok (.invokevirtual 296, 3) := by decide +kernel
theorem dX7_recordState_16 : decode cX7_recordState 16 = .ok (.aload_n 0, 1) := by decide +kernel
theorem dX7_recordState_17 : decode cX7_recordState 17 = .ok (.getfield 20, 3) := by decide +kernel
theorem dX7_recordState_20 : decode cX7_recordState 20 = .ok (.ifCond .lt 53, 3) := by decide +kernel
theorem dX7_recordState_23 : decode cX7_recordState 23 = .ok (.aload_n 0, 1) := by decide +kernel
theorem dX7_recordState_24 : decode cX7_recordState 24 = .ok (.getfield 20, 3) := by decide +kernel
theorem dX7_recordState_27 : decode cX7_recordState 27 = .ok (.aload_n 0, 1) := by decide +kernel
theorem dX7_recordState_28 : decode cX7_recordState 28 = .ok (.getfield 16, 3) := by decide +kernel
theorem dX7_recordState_31 : decode cX7_recordState 31 = .ok (.arraylength, 1) := by decide +kernel
theorem dX7_recordState_32 : decode cX7_recordState 32 = .ok (.if_icmp .ge 41, 3) := by decide +kernel
theorem dX7_recordState_35 : decode cX7_recordState 35 = .ok (.aload_n 0, 1) := by decide +kernel
theorem dX7_recordState_36 : decode cX7_recordState 36 = .ok (.getfield 16, 3) := by decide +kernel
theorem dX7_recordState_39 : decode cX7_recordState 39 = .ok (.aload_n 0, 1) := by decide +kernel
theorem dX7_recordState_40 : decode cX7_recordState 40 = .ok (.getfield 20, 3) := by decide +kernel
theorem dX7_recordState_43 : decode cX7_recordState 43 = .ok (.aaload, 1) := by decide +kernel
theorem dX7_recordState_44 : decode cX7_recordState 44 = .ok (.ifnull 29, 3) := by decide +kernel
theorem dX7_recordState_47 : decode cX7_recordState 47 = .ok (.aload_n 0, 1) := by decide +kernel
theorem dX7_recordState_48 : decode cX7_recordState 48 = .ok (.getfield 16, 3) := by decide +kernel
theorem dX7_recordState_51 : decode cX7_recordState 51 = .ok (.aload_n 0, 1) := by decide +kernel
theorem dX7_recordState_52 : decode cX7_recordState 52 = .ok (.getfield 20, 3) := by decide +kernel
theorem dX7_recordState_55 : decode cX7_recordState 55 = .ok (.aaload, 1) := by decide +kernel
theorem dX7_recordState_56 : decode cX7_recordState 56 = .ok (.aload_n 0, 1) := by decide +kernel
theorem dX7_recordState_57 : decode cX7_recordState 57 = .ok (.getfield 12, 3) := by decide +kernel
theorem dX7_recordState_60 : decode cX7_recordState 60 = .ok (.invokevirtual 257, 3) := by decide +kernel
theorem dX7_recordState_63 : decode cX7_recordState 63 = .ok (.aload_n 0, 1) := by decide +kernel
theorem dX7_recordState_64 : decode cX7_recordState 64 = .ok (.dup, 1) := by decide +kernel
theorem dX7_recordState_65 : decode cX7_recordState 65 = .ok (.getfield 20, 3) := by decide +kernel
theorem dX7_recordState_68 : decode cX7_recordState 68 = .ok (.iconst 1, 1) := by decide +kernel
theorem dX7_recordState_69 : decode cX7_recordState 69 = .ok (.iadd, 1) := by decide +kernel
theorem dX7_recordState_70 : decode cX7_recordState 70 = .ok (.putfield 20, 3) := by decide +kernel
theorem dX7_recordState_73 : decode cX7_recordState 73 = .ok (.return_, 1) := by decide +kernel
theorem dX7_dropOldestState_0 : decode cX7_dropOldestState 0 = .ok (.iconst 1, 1) := by decide +kernel
theorem dX7_dropOldestState_1 : decode cX7_dropOldestState 1 = .ok (.istore_n 1, 1) := by decide +kernel
theorem dX7_dropOldestState_2 : decode cX7_dropOldestState 2 = .ok (.iload_n 1, 1) := by decide +kernel
theorem dX7_dropOldestState_3 : decode cX7_dropOldestState 3 = .ok (.aload_n 0, 1) := by decide +kernel
theorem dX7_dropOldestState_4 : decode cX7_dropOldestState 4 = .ok (.getfield 16, 3) := by decide +kernel
theorem dX7_dropOldestState_7 : decode cX7_dropOldestState 7 = .ok (.arraylength, 1) := by decide +kernel
theorem dX7_dropOldestState_8 : decode cX7_dropOldestState 8 = .ok (.if_icmp .ge 39, 3) := by decide +kernel
theorem dX7_dropOldestState_11 : decode cX7_dropOldestState 11 = .ok (.aload_n 0, 1) := by decide +kernel
theorem dX7_dropOldestState_12 : decode cX7_dropOldestState 12 = .ok (.getfield 16, 3) := by decide +kernel
theorem dX7_dropOldestState_15 : decode cX7_dropOldestState 15 = .ok (.iload_n 1, 1) := by decide +kernel
theorem dX7_dropOldestState_16 : decode cX7_dropOldestState 16 = .ok (.iconst 1, 1) := by decide +kernel
theorem dX7_dropOldestState_17 : decode cX7_dropOldestState 17 = .ok (.isub, 1) := by decide +kernel
theorem dX7_dropOldestState_18 : decode cX7_dropOldestState 18 = .ok (.aaload, 1) := by decide +kernel
theorem dX7_dropOldestState_19 : decode cX7_dropOldestState 19 = .ok (.astore_n 2, 1) := by decide +kernel
theorem dX7_dropOldestState_20 : decode cX7_dropOldestState 20 = .ok (.aload_n 0, 1) := by decide +kernel
theorem dX7_dropOldestState_21 : decode cX7_dropOldestState 21 = .ok (.getfield 16, 3) := by decide +kernel
theorem dX7_dropOldestState_24 : decode cX7_dropOldestState 24 = .ok (.iload_n 1, 1) := by decide +kernel
theorem dX7_dropOldestState_25 : decode cX7_dropOldestState 25 = .ok (.iconst 1, 1) := by decide +kernel
theorem dX7_dropOldestState_26 : decode cX7_dropOldestState 26 = .ok (.isub, 1) := by decide +kernel
theorem dX7_dropOldestState_27 : decode cX7_dropOldestState 27 = .ok (.aload_n 0, 1) := by decide +kernel
theorem dX7_dropOldestState_28 : decode cX7_dropOldestState 28 = .ok (.getfield 16, 3) := by decide +kernel
theorem dX7_dropOldestState_31 : decode cX7_dropOldestState 31 = .ok (.iload_n 1, 1) := by decide +kernel
theorem dX7_dropOldestState_32 : decode cX7_dropOldestState 32 = .ok (.aaload, 1) := by decide +kernel
theorem dX7_dropOldestState_33 : decode cX7_dropOldestState 33 = .ok (.aastore, 1) := by decide +kernel
theorem dX7_dropOldestState_34 : decode cX7_dropOldestState 34 = .ok (.aload_n 0, 1) := by decide +kernel
theorem dX7_dropOldestState_35 : decode cX7_dropOldestState 35 = .ok (.getfield 16, 3) := by decide +kernel
theorem dX7_dropOldestState_38 : decode cX7_dropOldestState 38 = .ok (.iload_n 1, 1) := by decide +kernel
theorem dX7_dropOldestState_39 : decode cX7_dropOldestState 39 = .ok (.aload_n 2, 1) := by decide +kernel
theorem dX7_dropOldestState_40 : decode cX7_dropOldestState 40 = .ok (.aastore, 1) := by decide +kernel
theorem dX7_dropOldestState_41 : decode cX7_dropOldestState 41 = .ok (.iinc 1 1, 3) := by decide +kernel
theorem dX7_dropOldestState_44 : decode cX7_dropOldestState 44 = .ok (.goto (-42), 3) := by decide +kernel
theorem dX7_dropOldestState_47 : decode cX7_dropOldestState 47 = .ok (.aload_n 0, 1) := by decide +kernel
theorem dX7_dropOldestState_48 : decode cX7_dropOldestState 48 = .ok (.aload_n 0, 1) := by decide +kernel
theorem dX7_dropOldestState_49 : decode cX7_dropOldestState 49 = .ok (.getfield 16, 3) := by decide +kernel
theorem dX7_dropOldestState_52 : decode cX7_dropOldestState 52 = .ok (.arraylength, 1) := by decide +kernel
theorem dX7_dropOldestState_53 : decode cX7_dropOldestState 53 = .ok (.iconst 1, 1) := by decide +kernel
theorem dX7_dropOldestState_54 : decode cX7_dropOldestState 54 = .ok (.isub, 1) := by decide +kernel
theorem dX7_dropOldestState_55 : decode cX7_dropOldestState 55 = .ok (.putfield 20, 3) := by decide +kernel
theorem dX7_dropOldestState_58 : decode cX7_dropOldestState 58 = .ok (.return_, 1) := by decide +kernel
theorem dX7_isPlace_0 : decode cX7_isPlace 0 = .ok (.iload_n 1, 1) := by decide +kernel
theorem dX7_isPlace_1 : decode cX7_isPlace 1 = .ok (.iconst 0, 1) := by decide +kernel
theorem dX7_isPlace_2 : decode cX7_isPlace 2 = .ok (.aload_n 0, 1) := by decide +kernel
theorem dX7_isPlace_3 : decode cX7_isPlace 3 = .ok (.getfield 12, 3) := by decide +kernel
theorem dX7_isPlace_6 : decode cX7_isPlace 6 = .ok (.iconst 0, 1) := by decide +kernel
theorem dX7_isPlace_7 : decode cX7_isPlace 7 = .ok (.invokevirtual 78, 3) := by decide +kernel
theorem dX7_isPlace_10 : decode cX7_isPlace 10 = .ok (.iconst 1, 1) := by decide +kernel
theorem dX7_isPlace_11 : decode cX7_isPlace 11 = .ok (.isub, 1) := by decide +kernel
theorem dX7_isPlace_12 : decode cX7_isPlace 12 = .ok (.invokestatic 56, 3) := by decide +kernel
theorem dX7_isPlace_15 : decode cX7_isPlace 15 = .ok (.ifCond .eq 25, 3) := by decide +kernel
theorem dX7_isPlace_18 : decode cX7_isPlace 18 = .ok (.iload_n 2, 1) := by decide +kernel
theorem dX7_isPlace_19 : decode cX7_isPlace 19 = .ok (.iconst 0, 1) := by decide +kernel
theorem dX7_isPlace_20 : decode cX7_isPlace 20 = .ok (.aload_n 0, 1) := by decide +kernel
theorem dX7_isPlace_21 : decode cX7_isPlace 21 = .ok (.getfield 12, 3) := by decide +kernel
theorem dX7_isPlace_24 : decode cX7_isPlace 24 = .ok (.iconst 1, 1) := by decide +kernel
theorem dX7_isPlace_25 : decode cX7_isPlace 25 = .ok (.invokevirtual 78, 3) := by decide +kernel
theorem dX7_isPlace_28 : decode cX7_isPlace 28 = .ok (.iconst 1, 1) := by decide +kernel
theorem dX7_isPlace_29 : decode cX7_isPlace 29 = .ok (.isub, 1) := by decide +kernel
theorem dX7_isPlace_30 : decode cX7_isPlace 30 = .ok (.invokestatic 56, 3) := by decide +kernel
theorem dX7_isPlace_33 : decode cX7_isPlace 33 = .ok (.ifCond .eq 7, 3) := by decide +kernel
theorem dX7_isPlace_36 : decode cX7_isPlace 36 = .ok (.iconst 1, 1) := by decide +kernel
theorem dX7_isPlace_37 : decode cX7_isPlace 37 = .ok (.goto 4, 3) := by decide +kernel
theorem dX7_isPlace_40 : decode cX7_isPlace 40 = .ok (.iconst 0, 1) := by decide +kernel
theorem dX7_isPlace_41 : decode cX7_isPlace 41 = .ok (.ireturn, 1) := by decide +kernel
theorem dX7_edgeCountOf_0 : decode cX7_edgeCountOf 0 = .ok (.iconst 0, 1) := by decide +kernel
theorem dX7_edgeCountOf_1 : decode cX7_edgeCountOf 1 = .ok (.istore_n 2, 1) := by decide +kernel
theorem dX7_edgeCountOf_2 : decode cX7_edgeCountOf 2 = .ok (.iconst 0, 1) := by decide +kernel
theorem dX7_edgeCountOf_3 : decode cX7_edgeCountOf 3 = .ok (.istore_n 3, 1) := by decide +kernel
theorem dX7_edgeCountOf_4 : decode cX7_edgeCountOf 4 = .ok (.iload_n 3, 1) := by decide +kernel
theorem dX7_edgeCountOf_5 : decode cX7_edgeCountOf 5 = .ok (.aload_n 0, 1) := by decide +kernel
theorem dX7_edgeCountOf_6 : decode cX7_edgeCountOf 6 = .ok (.getfield 12, 3) := by decide +kernel
theorem dX7_edgeCountOf_9 : decode cX7_edgeCountOf 9 = .ok (.iconst 0, 1) := by decide +kernel
theorem dX7_edgeCountOf_10 : decode cX7_edgeCountOf 10 = .ok (.invokevirtual 78, 3) := by decide +kernel
theorem dX7_edgeCountOf_13 : decode cX7_edgeCountOf 13 = .ok (.if_icmp .ge 24, 3) := by decide +kernel
theorem dX7_edgeCountOf_16 : decode cX7_edgeCountOf 16 = .ok (.iload_n 2, 1) := by decide +kernel
theorem dX7_edgeCountOf_17 : decode cX7_edgeCountOf 17 = .ok (.aload_n 0, 1) := by decide +kernel
theorem dX7_edgeCountOf_18 : decode cX7_edgeCountOf 18 = .ok (.getfield 12, 3) := by decide +kernel
theorem dX7_edgeCountOf_21 : decode cX7_edgeCountOf 21 = .ok (.aload_n 1, 1) := by decide +kernel
theorem dX7_edgeCountOf_22 : decode cX7_edgeCountOf 22 = .ok (.iload_n 3, 1) := by decide +kernel
theorem dX7_edgeCountOf_23 : decode cX7_edgeCountOf 23 = .ok (.invokevirtual 167, 3) := by decide +kernel
theorem dX7_edgeCountOf_26 : decode cX7_edgeCountOf 26 = .ok (.invokestatic 126, 3) := by decide +kernel
theorem dX7_edgeCountOf_29 : decode cX7_edgeCountOf 29 = .ok (.iadd, 1) := by decide +kernel
theorem dX7_edgeCountOf_30 : decode cX7_edgeCountOf 30 = .ok (.istore_n 2, 1) := by decide +kernel
theorem dX7_edgeCountOf_31 : decode cX7_edgeCountOf 31 = .ok (.iinc 3 1, 3) := by decide +kernel
theorem dX7_edgeCountOf_34 : decode cX7_edgeCountOf 34 = .ok (.goto (-30), 3) := by decide +kernel
theorem dX7_edgeCountOf_37 : decode cX7_edgeCountOf 37 = .ok (.iload_n 2, 1) := by decide +kernel
theorem dX7_edgeCountOf_38 : decode cX7_edgeCountOf 38 = .ok (.ireturn, 1) := by decide +kernel
theorem dX7_rowFits_0 : decode cX7_rowFits 0 = .ok (.aload_n 0, 1) := by decide +kernel
theorem dX7_rowFits_1 : decode cX7_rowFits 1 = .ok (.getfield 12, 3) := by decide +kernel
theorem dX7_rowFits_4 : decode cX7_rowFits 4 = .ok (.iload_n 2, 1) := by decide +kernel
theorem dX7_rowFits_5 : decode cX7_rowFits 5 = .ok (.aload_n 0, 1) := by decide +kernel
theorem dX7_rowFits_6 : decode cX7_rowFits 6 = .ok (.getfield 12, 3) := by decide +kernel
theorem dX7_rowFits_9 : decode cX7_rowFits 9 = .ok (.aload_n 1, 1) := by decide +kernel
theorem dX7_rowFits_10 : decode cX7_rowFits 10 = .ok (.iload_n 2, 1) := by decide +kernel
theorem dX7_rowFits_11 : decode cX7_rowFits 11 = .ok (.invokevirtual 241, 3) := by decide +kernel
theorem dX7_rowFits_14 : decode cX7_rowFits 14 = .ok (.iconst (-1), 1) := by decide +kernel
theorem dX7_rowFits_15 : decode cX7_rowFits 15 = .ok (.iconst 0, 1) := by decide +kernel
theorem dX7_rowFits_16 : decode cX7_rowFits 16 = .ok (.aload_n 0, 1) := by decide +kernel
theorem dX7_rowFits_17 : decode cX7_rowFits 17 = .ok (.getfield 52, 3) := by decide +kernel
theorem dX7_rowFits_20 : decode cX7_rowFits 20 = .ok (.invokevirtual 134, 3) := by decide +kernel
theorem dX7_rowFits_23 : decode cX7_rowFits 23 = .ok (.iconst 0, 1) := by decide +kernel
theorem dX7_rowFits_24 : decode cX7_rowFits 24 = .ok (.istore 4, 2) := by decide +kernel
theorem dX7_rowFits_26 : decode cX7_rowFits 26 = .ok (.iload 4, 2) := by decide +kernel
theorem dX7_rowFits_28 : decode cX7_rowFits 28 = .ok (.aload_n 0, 1) := by decide +kernel
theorem dX7_rowFits_29 : decode cX7_rowFits 29 = .ok (.getfield 12, 3) := by decide +kernel
theorem dX7_rowFits_32 : decode cX7_rowFits 32 = .ok (.iconst 1, 1) := by decide +kernel
theorem dX7_rowFits_33 : decode cX7_rowFits 33 = .ok (.invokevirtual 78, 3) := by decide +kernel
theorem dX7_rowFits_36 : decode cX7_rowFits 36 = .ok (.if_icmp .ge 34, 3) := by decide +kernel
theorem dX7_rowFits_39 : decode cX7_rowFits 39 = .ok (.aload_n 1, 1) := by decide +kernel
theorem dX7_rowFits_40 : decode cX7_rowFits 40 = .ok (.iload_n 2, 1) := by decide +kernel
theorem dX7_rowFits_41 : decode cX7_rowFits 41 = .ok (.iload 4, 2) := by decide +kernel
theorem dX7_rowFits_43 : decode cX7_rowFits 43 = .ok (.invokevirtual 164, 3) := by decide +kernel
theorem dX7_rowFits_46 : decode cX7_rowFits 46 = .ok (.aload_n 0, 1) := by decide +kernel
theorem dX7_rowFits_47 : decode cX7_rowFits 47 = .ok (.getfield 52, 3) := by decide +kernel
theorem dX7_rowFits_50 : decode cX7_rowFits 50 = .ok (.iload 4, 2) := by decide +kernel
theorem dX7_rowFits_52 : decode cX7_rowFits 52 = .ok (.invokestatic 64, 3) := by decide +kernel
theorem dX7_rowFits_55 : decode cX7_rowFits 55 = .ok (.iload_n 3, 1) := by decide +kernel
theorem dX7_rowFits_56 : decode cX7_rowFits 56 = .ok (.invokestatic 141, 3) := by decide +kernel
theorem dX7_rowFits_59 : decode cX7_rowFits 59 = .ok (.if_icmp .eq 5, 3) := by decide +kernel
theorem dX7_rowFits_62 : decode cX7_rowFits 62 = .ok (.iconst 0, 1) := by decide +kernel
theorem dX7_rowFits_63 : decode cX7_rowFits 63 = .ok (.ireturn, 1) := by decide +kernel
theorem dX7_rowFits_64 : decode cX7_rowFits 64 = .ok (.iinc 4 1, 3) := by decide +kernel
theorem dX7_rowFits_67 : decode cX7_rowFits 67 = .ok (.goto (-41), 3) := by decide +kernel
theorem dX7_rowFits_70 : decode cX7_rowFits 70 = .ok (.iconst 1, 1) := by decide +kernel
theorem dX7_rowFits_71 : decode cX7_rowFits 71 = .ok (.ireturn, 1) := by decide +kernel
theorem dX7_periodsFitting_0 : decode cX7_periodsFitting 0 = .ok (.ldc 237, 2) := by decide +kernel
theorem dX7_periodsFitting_2 : decode cX7_periodsFitting 2 = .ok (.istore_n 2, 1) := by decide +kernel
theorem dX7_periodsFitting_3 : decode cX7_periodsFitting 3 = .ok (.iconst 0, 1) := by decide +kernel
theorem dX7_periodsFitting_4 : decode cX7_periodsFitting 4 = .ok (.istore_n 3, 1) := by decide +kernel
theorem dX7_periodsFitting_5 : decode cX7_periodsFitting 5 = .ok (.iload_n 3, 1) := by decide +kernel
theorem dX7_periodsFitting_6 : decode cX7_periodsFitting 6 = .ok (.aload_n 0, 1) := by decide +kernel
theorem dX7_periodsFitting_7 : decode cX7_periodsFitting 7 = .ok (.getfield 12, 3) := by decide +kernel
theorem dX7_periodsFitting_10 : decode cX7_periodsFitting 10 = .ok (.iconst 0, 1) := by decide +kernel
theorem dX7_periodsFitting_11 : decode cX7_periodsFitting 11 = .ok (.invokevirtual 78, 3) := by decide +kernel
theorem dX7_periodsFitting_14 : decode cX7_periodsFitting 14 = .ok (.if_icmp .ge 90, 3) := by decide +kernel
theorem dX7_periodsFitting_17 : decode cX7_periodsFitting 17 = .ok (.aload_n 1, 1) := by decide +kernel
theorem dX7_periodsFitting_18 : decode cX7_periodsFitting 18 = .ok (.getfield 158, 3) := by decide +kernel
theorem dX7_periodsFitting_21 : decode cX7_periodsFitting 21 = .ok (.iload_n 3, 1) := by decide +kernel
theorem dX7_periodsFitting_22 : decode cX7_periodsFitting 22 = .ok (.invokestatic 122, 3) := by decide +kernel
theorem dX7_periodsFitting_25 : decode cX7_periodsFitting 25 = .ok (.ifCond .ne 73, 3) := by decide +kernel
theorem dX7_periodsFitting_28 : decode cX7_periodsFitting 28 = .ok (.aload_n 0, 1) := by decide +kernel
theorem dX7_periodsFitting_29 : decode cX7_periodsFitting 29 = .ok (.aload_n 0, 1) := by decide +kernel
theorem dX7_periodsFitting_30 : decode cX7_periodsFitting 30 = .ok (.getfield 12, 3) := by decide +kernel
theorem dX7_periodsFitting_33 : decode cX7_periodsFitting 33 = .ok (.aload_n 1, 1) := by decide +kernel
theorem dX7_periodsFitting_34 : decode cX7_periodsFitting 34 = .ok (.iload_n 3, 1) := by decide +kernel
theorem dX7_periodsFitting_35 : decode cX7_periodsFitting 35 = .ok (.invokevirtual 241, 3) := by decide +kernel
theorem dX7_periodsFitting_38 : decode cX7_periodsFitting 38 = .ok (.invokevirtual 299, 3) := by decide +kernel
theorem dX7_periodsFitting_41 : decode cX7_periodsFitting 41 = .ok (.istore 4, 2) := by decide +kernel
theorem dX7_periodsFitting_43 : decode cX7_periodsFitting 43 = .ok (.aload_n 0, 1) := by decide +kernel
theorem dX7_periodsFitting_44 : decode cX7_periodsFitting 44 = .ok (.aload_n 1, 1) := by decide +kernel
theorem dX7_periodsFitting_45 : decode cX7_periodsFitting 45 = .ok (.iload_n 3, 1) := by decide +kernel
theorem dX7_periodsFitting_46 : decode cX7_periodsFitting 46 = .ok (.aload_n 0, 1) := by decide +kernel
theorem dX7_periodsFitting_47 : decode cX7_periodsFitting 47 = .ok (.getfield 12, 3) := by decide +kernel
theorem dX7_periodsFitting_50 : decode cX7_periodsFitting 50 = .ok (.bipush 7, 2) := by decide +kernel
theorem dX7_periodsFitting_52 : decode cX7_periodsFitting 52 = .ok (.invokevirtual 78, 3) := by decide +kernel
theorem dX7_periodsFitting_55 : decode cX7_periodsFitting 55 = .ok (.invokevirtual 244, 3) := by decide +kernel
theorem dX7_periodsFitting_58 : decode cX7_periodsFitting 58 = .ok (.ifCond .eq 8, 3) := by decide +kernel
theorem dX7_periodsFitting_61 : decode cX7_periodsFitting 61 = .ok (.iload 4, 2) := by decide +kernel
theorem dX7_periodsFitting_63 : decode cX7_periodsFitting 63 = .ok (.goto 4, 3) := by decide +kernel
theorem dX7_periodsFitting_66 : decode cX7_periodsFitting 66 = .ok (.iconst 0, 1) := by decide +kernel
theorem dX7_periodsFitting_67 : decode cX7_periodsFitting 67 = .ok (.istore 5, 2) := by decide +kernel
theorem dX7_periodsFitting_69 : decode cX7_periodsFitting 69 = .ok (.aload_n 0, 1) := by decide +kernel
theorem dX7_periodsFitting_70 : decode cX7_periodsFitting 70 = .ok (.aload_n 1, 1) := by decide +kernel
theorem dX7_periodsFitting_71 : decode cX7_periodsFitting 71 = .ok (.iload_n 3, 1) := by decide +kernel
theorem dX7_periodsFitting_72 : decode cX7_periodsFitting 72 = .ok (.bipush 100, 2) := by decide +kernel
theorem dX7_periodsFitting_74 : decode cX7_periodsFitting 74 = .ok (.invokevirtual 244, 3) := by decide +kernel
theorem dX7_periodsFitting_77 : decode cX7_periodsFitting 77 = .ok (.ifCond .eq 10, 3) := by decide +kernel
theorem dX7_periodsFitting_80 : decode cX7_periodsFitting 80 = .ok (.iload 4, 2) := by decide +kernel
theorem dX7_periodsFitting_82 : decode cX7_periodsFitting 82 = .ok (.iconst (-1), 1) := by decide +kernel
theorem dX7_periodsFitting_83 : decode cX7_periodsFitting 83 = .ok (.ixor, 1) := by decide +kernel
theorem dX7_periodsFitting_84 : decode cX7_periodsFitting 84 = .ok (.goto 4, 3) := by decide +kernel
theorem dX7_periodsFitting_87 : decode cX7_periodsFitting 87 = .ok (.iconst 0, 1) := by decide +kernel
theorem dX7_periodsFitting_88 : decode cX7_periodsFitting 88 = .ok (.istore 6, 2) := by decide +kernel
theorem dX7_periodsFitting_90 : decode cX7_periodsFitting 90 = .ok (.iload_n 2, 1) := by decide +kernel
theorem dX7_periodsFitting_91 : decode cX7_periodsFitting 91 = .ok (.iload 5, 2) := by decide +kernel
theorem dX7_periodsFitting_93 : decode cX7_periodsFitting 93 = .ok (.iload 6, 2) := by decide +kernel
theorem dX7_periodsFitting_95 : decode cX7_periodsFitting 95 = .ok (.ior, 1) := by decide +kernel
theorem dX7_periodsFitting_96 : decode cX7_periodsFitting 96 = .ok (.iand, 1) := by decide +kernel
theorem dX7_periodsFitting_97 : decode cX7_periodsFitting 97 = .ok (.istore_n 2, 1) := by decide +kernel
theorem dX7_periodsFitting_98 : decode cX7_periodsFitting 98 = .ok (.iinc 3 1, 3) := by decide +kernel
theorem dX7_periodsFitting_101 : decode cX7_periodsFitting 101 = .ok (.goto (-96), 3) := by decide +kernel
theorem dX7_periodsFitting_104 : decode cX7_periodsFitting 104 = .ok (.iload_n 2, 1) := by decide +kernel
theorem dX7_periodsFitting_105 : decode cX7_periodsFitting 105 = .ok (.ireturn, 1) := by decide +kernel
theorem dX7_darkPeriods_0 : decode cX7_darkPeriods 0 = .ok (.iconst 0, 1) := by decide +kernel
theorem dX7_darkPeriods_1 : decode cX7_darkPeriods 1 = .ok (.istore_n 2, 1) := by decide +kernel
theorem dX7_darkPeriods_2 : decode cX7_darkPeriods 2 = .ok (.iconst 0, 1) := by decide +kernel
theorem dX7_darkPeriods_3 : decode cX7_darkPeriods 3 = .ok (.istore_n 3, 1) := by decide +kernel
theorem dX7_darkPeriods_4 : decode cX7_darkPeriods 4 = .ok (.iload_n 3, 1) := by decide +kernel
theorem dX7_darkPeriods_5 : decode cX7_darkPeriods 5 = .ok (.bipush 20, 2) := by decide +kernel
theorem dX7_darkPeriods_7 : decode cX7_darkPeriods 7 = .ok (.if_icmp .gt 32, 3) := by decide +kernel
theorem dX7_darkPeriods_10 : decode cX7_darkPeriods 10 = .ok (.iload_n 1, 1) := by decide +kernel
theorem dX7_darkPeriods_11 : decode cX7_darkPeriods 11 = .ok (.iload_n 3, 1) := by decide +kernel
theorem dX7_darkPeriods_12 : decode cX7_darkPeriods 12 = .ok (.aload_n 0, 1) := by decide +kernel
theorem dX7_darkPeriods_13 : decode cX7_darkPeriods 13 = .ok (.getfield 12, 3) := by decide +kernel
theorem dX7_darkPeriods_16 : decode cX7_darkPeriods 16 = .ok (.bipush 6, 2) := by decide +kernel
theorem dX7_darkPeriods_18 : decode cX7_darkPeriods 18 = .ok (.invokevirtual 78, 3) := by decide +kernel
theorem dX7_darkPeriods_21 : decode cX7_darkPeriods 21 = .ok (.invokestatic 251, 3) := by decide +kernel
theorem dX7_darkPeriods_24 : decode cX7_darkPeriods 24 = .ok (.ifCond .eq 9, 3) := by decide +kernel
theorem dX7_darkPeriods_27 : decode cX7_darkPeriods 27 = .ok (.iload_n 2, 1) := by decide +kernel
theorem dX7_darkPeriods_28 : decode cX7_darkPeriods 28 = .ok (.iconst 1, 1) := by decide +kernel
theorem dX7_darkPeriods_29 : decode cX7_darkPeriods 29 = .ok (.iload_n 3, 1) := by decide +kernel
theorem dX7_darkPeriods_30 : decode cX7_darkPeriods 30 = .ok (.ishl, 1) := by decide +kernel
theorem dX7_darkPeriods_31 : decode cX7_darkPeriods 31 = .ok (.ior, 1) := by decide +kernel
theorem dX7_darkPeriods_32 : decode cX7_darkPeriods 32 = .ok (.istore_n 2, 1) := by decide +kernel
theorem dX7_darkPeriods_33 : decode cX7_darkPeriods 33 = .ok (.iinc 3 1, 3) := by decide +kernel
theorem dX7_darkPeriods_36 : decode cX7_darkPeriods 36 = .ok (.goto (-32), 3) := by decide +kernel
theorem dX7_darkPeriods_39 : decode cX7_darkPeriods 39 = .ok (.iload_n 2, 1) := by decide +kernel
theorem dX7_darkPeriods_40 : decode cX7_darkPeriods 40 = .ok (.ireturn, 1) := by decide +kernel
theorem dX7_isWithin_0 : decode cX7_isWithin 0 = .ok (.iload_n 0, 1) := by decide +kernel
theorem dX7_isWithin_1 : decode cX7_isWithin 1 = .ok (.iload_n 1, 1) := by decide +kernel
theorem dX7_isWithin_2 : decode cX7_isWithin 2 = .ok (.if_icmp .lt 12, 3) := by decide +kernel
theorem dX7_isWithin_5 : decode cX7_isWithin 5 = .ok (.iload_n 0, 1) := by decide +kernel
theorem dX7_isWithin_6 : decode cX7_isWithin 6 = .ok (.iload_n 2, 1) := by decide +kernel
theorem dX7_isWithin_7 : decode cX7_isWithin 7 = .ok (.if_icmp .gt 7, 3) := by decide +kernel
theorem dX7_isWithin_10 : decode cX7_isWithin 10 = .ok (.iconst 1, 1) := by decide +kernel
theorem dX7_isWithin_11 : decode cX7_isWithin 11 = .ok (.goto 4, 3) := by decide +kernel
theorem dX7_isWithin_14 : decode cX7_isWithin 14 = .ok (.iconst 0, 1) := by decide +kernel
theorem dX7_isWithin_15 : decode cX7_isWithin 15 = .ok (.ireturn, 1) := by decide +kernel
theorem dX7_numberIn_0 : decode cX7_numberIn 0 = .ok (.iload_n 1, 1) := by decide +kernel
theorem dX7_numberIn_1 : decode cX7_numberIn 1 = .ok (.ifCond .lt 15, 3) := by decide +kernel
theorem dX7_numberIn_4 : decode cX7_numberIn 4 = .ok (.iload_n 1, 1) := by decide +kernel
theorem dX7_numberIn_5 : decode cX7_numberIn 5 = .ok (.aload_n 0, 1) := by decide +kernel
theorem dX7_numberIn_6 : decode cX7_numberIn 6 = .ok (.arraylength, 1) := by decide +kernel
theorem dX7_numberIn_7 : decode cX7_numberIn 7 = .ok (.if_icmp .ge 9, 3) := by decide +kernel
theorem dX7_numberIn_10 : decode cX7_numberIn 10 = .ok (.aload_n 0, 1) := by decide +kernel
theorem dX7_numberIn_11 : decode cX7_numberIn 11 = .ok (.iload_n 1, 1) := by decide +kernel
theorem dX7_numberIn_12 : decode cX7_numberIn 12 = .ok (.iaload, 1) := by decide +kernel
theorem dX7_numberIn_13 : decode cX7_numberIn 13 = .ok (.goto 4, 3) := by decide +kernel
theorem dX7_numberIn_16 : decode cX7_numberIn 16 = .ok (.iconst 0, 1) := by decide +kernel
theorem dX7_numberIn_17 : decode cX7_numberIn 17 = .ok (.ireturn, 1) := by decide +kernel
theorem dX7_holds_0 : decode cX7_holds 0 = .ok (.iload_n 0, 1) := by decide +kernel
theorem dX7_holds_1 : decode cX7_holds 1 = .ok (.iload_n 1, 1) := by decide +kernel
theorem dX7_holds_2 : decode cX7_holds 2 = .ok (.ishr, 1) := by decide +kernel
theorem dX7_holds_3 : decode cX7_holds 3 = .ok (.iconst 1, 1) := by decide +kernel
theorem dX7_holds_4 : decode cX7_holds 4 = .ok (.iand, 1) := by decide +kernel
theorem dX7_holds_5 : decode cX7_holds 5 = .ok (.iconst 1, 1) := by decide +kernel
theorem dX7_holds_6 : decode cX7_holds 6 = .ok (.if_icmp .ne 7, 3) := by decide +kernel
theorem dX7_holds_9 : decode cX7_holds 9 = .ok (.iconst 1, 1) := by decide +kernel
theorem dX7_holds_10 : decode cX7_holds 10 = .ok (.goto 4, 3) := by decide +kernel
theorem dX7_holds_13 : decode cX7_holds 13 = .ok (.iconst 0, 1) := by decide +kernel
theorem dX7_holds_14 : decode cX7_holds 14 = .ok (.ireturn, 1) := by decide +kernel
theorem dX7_isDark_0 : decode cX7_isDark 0 = .ok (.iload_n 1, 1) := by decide +kernel
theorem dX7_isDark_1 : decode cX7_isDark 1 = .ok (.ifCond .eq 14, 3) := by decide +kernel
theorem dX7_isDark_4 : decode cX7_isDark 4 = .ok (.iload_n 0, 1) := by decide +kernel
theorem dX7_isDark_5 : decode cX7_isDark 5 = .ok (.iload_n 1, 1) := by decide +kernel
theorem dX7_isDark_6 : decode cX7_isDark 6 = .ok (.irem, 1) := by decide +kernel
theorem dX7_isDark_7 : decode cX7_isDark 7 = .ok (.iload_n 2, 1) := by decide +kernel
theorem dX7_isDark_8 : decode cX7_isDark 8 = .ok (.if_icmp .ge 7, 3) := by decide +kernel
theorem dX7_isDark_11 : decode cX7_isDark 11 = .ok (.iconst 1, 1) := by decide +kernel
theorem dX7_isDark_12 : decode cX7_isDark 12 = .ok (.goto 4, 3) := by decide +kernel
theorem dX7_isDark_15 : decode cX7_isDark 15 = .ok (.iconst 0, 1) := by decide +kernel
theorem dX7_isDark_16 : decode cX7_isDark 16 = .ok (.ireturn, 1) := by decide +kernel
theorem dX7_dimmed_0 : decode cX7_dimmed 0 = .ok (.iload_n 0, 1) := by decide +kernel
theorem dX7_dimmed_1 : decode cX7_dimmed 1 = .ok (.iload_n 1, 1) := by decide +kernel
theorem dX7_dimmed_2 : decode cX7_dimmed 2 = .ok (.imul, 1) := by decide +kernel
theorem dX7_dimmed_3 : decode cX7_dimmed 3 = .ok (.bipush 100, 2) := by decide +kernel
theorem dX7_dimmed_5 : decode cX7_dimmed 5 = .ok (.idiv, 1) := by decide +kernel
theorem dX7_dimmed_6 : decode cX7_dimmed 6 = .ok (.ireturn, 1) := by decide +kernel
theorem dX7_wrongOfThing_0 : decode cX7_wrongOfThing 0 = .ok (.iload_n 0, 1) := by decide +kernel
theorem dX7_wrongOfThing_1 : decode cX7_wrongOfThing 1 = .ok (.iconst 0, 1) := by decide +kernel
theorem dX7_wrongOfThing_2 : decode cX7_wrongOfThing 2 = .ok (.bipush 9, 2) := by decide +kernel
theorem dX7_wrongOfThing_4 : decode cX7_wrongOfThing 4 = .ok (.invokestatic 56, 3) := by decide +kernel
theorem dX7_wrongOfThing_7 : decode cX7_wrongOfThing 7 = .ok (.ifCond .ne 5, 3) := by decide +kernel
theorem dX7_wrongOfThing_10 : decode cX7_wrongOfThing 10 = .ok (.iconst 0, 1) := by decide +kernel
theorem dX7_wrongOfThing_11 : decode cX7_wrongOfThing 11 = .ok (.ireturn, 1) := by decide +kernel
theorem dX7_wrongOfThing_12 : decode cX7_wrongOfThing 12 = .ok (.iload_n 1, 1) := by decide +kernel
theorem dX7_wrongOfThing_13 : decode cX7_wrongOfThing 13 = .ok (.iload_n 0, 1) := by decide +kernel
theorem dX7_wrongOfThing_14 : decode cX7_wrongOfThing 14 = .ok (.bipush 9, 2) := by decide +kernel
theorem dX7_wrongOfThing_16 : decode cX7_wrongOfThing 16 = .ok (.invokestatic 56, 3) := by decide +kernel
theorem dX7_wrongOfThing_19 : decode cX7_wrongOfThing 19 = .ok (.ifCond .ne 5, 3) := by decide +kernel
theorem dX7_wrongOfThing_22 : decode cX7_wrongOfThing 22 = .ok (.iconst 1, 1) := by decide +kernel
theorem dX7_wrongOfThing_23 : decode cX7_wrongOfThing 23 = .ok (.ireturn, 1) := by decide +kernel
theorem dX7_wrongOfThing_24 : decode cX7_wrongOfThing 24 = .ok (.iload_n 2, 1) := by decide +kernel
theorem dX7_wrongOfThing_25 : decode cX7_wrongOfThing 25 = .ok (.sipush (-20000), 3) := by decide +kernel
theorem dX7_wrongOfThing_28 : decode cX7_wrongOfThing 28 = .ok (.sipush 20000, 3) := by decide +kernel
theorem dX7_wrongOfThing_31 : decode cX7_wrongOfThing 31 = .ok (.invokestatic 56, 3) := by decide +kernel
theorem dX7_wrongOfThing_34 : decode cX7_wrongOfThing 34 = .ok (.ifCond .ne 5, 3) := by decide +kernel
theorem dX7_wrongOfThing_37 : decode cX7_wrongOfThing 37 = .ok (.iconst 2, 1) := by decide +kernel
theorem dX7_wrongOfThing_38 : decode cX7_wrongOfThing 38 = .ok (.ireturn, 1) := by decide +kernel
theorem dX7_wrongOfThing_39 : decode cX7_wrongOfThing 39 = .ok (.iload_n 3, 1) := by decide +kernel
theorem dX7_wrongOfThing_40 : decode cX7_wrongOfThing 40 = .ok (.sipush (-200), 3) := by decide +kernel
theorem dX7_wrongOfThing_43 : decode cX7_wrongOfThing 43 = .ok (.sipush 200, 3) := by decide +kernel
theorem dX7_wrongOfThing_46 : decode cX7_wrongOfThing 46 = .ok (.invokestatic 56, 3) := by decide +kernel
theorem dX7_wrongOfThing_49 : decode cX7_wrongOfThing 49 = .ok (.ifCond .ne 5, 3) := by decide +kernel
theorem dX7_wrongOfThing_52 : decode cX7_wrongOfThing 52 = .ok (.iconst 3, 1) := by decide +kernel
theorem dX7_wrongOfThing_53 : decode cX7_wrongOfThing 53 = .ok (.ireturn, 1) := by decide +kernel
theorem dX7_wrongOfThing_54 : decode cX7_wrongOfThing 54 = .ok (.iload 4, 2) := by decide +kernel
theorem dX7_wrongOfThing_56 : decode cX7_wrongOfThing 56 = .ok (.bipush 50, 2) := by decide +kernel
theorem dX7_wrongOfThing_58 : decode cX7_wrongOfThing 58 = .ok (.sipush 1600, 3) := by decide +kernel
theorem dX7_wrongOfThing_61 : decode cX7_wrongOfThing 61 = .ok (.invokestatic 56, 3) := by decide +kernel
theorem dX7_wrongOfThing_64 : decode cX7_wrongOfThing 64 = .ok (.ifCond .ne 5, 3) := by decide +kernel
theorem dX7_wrongOfThing_67 : decode cX7_wrongOfThing 67 = .ok (.iconst 4, 1) := by decide +kernel
theorem dX7_wrongOfThing_68 : decode cX7_wrongOfThing 68 = .ok (.ireturn, 1) := by decide +kernel
theorem dX7_wrongOfThing_69 : decode cX7_wrongOfThing 69 = .ok (.iload 5, 2) := by decide +kernel
theorem dX7_wrongOfThing_71 : decode cX7_wrongOfThing 71 = .ok (.iconst 0, 1) := by decide +kernel
theorem dX7_wrongOfThing_72 : decode cX7_wrongOfThing 72 = .ok (.sipush 255, 3) := by decide +kernel
theorem dX7_wrongOfThing_75 : decode cX7_wrongOfThing 75 = .ok (.invokestatic 56, 3) := by decide +kernel
theorem dX7_wrongOfThing_78 : decode cX7_wrongOfThing 78 = .ok (.ifCond .eq 7, 3) := by decide +kernel
theorem dX7_wrongOfThing_81 : decode cX7_wrongOfThing 81 = .ok (.iconst (-1), 1) := by decide +kernel
theorem dX7_wrongOfThing_82 : decode cX7_wrongOfThing 82 = .ok (.goto 4, 3) := by decide +kernel
theorem dX7_wrongOfThing_85 : decode cX7_wrongOfThing 85 = .ok (.iconst 5, 1) := by decide +kernel
theorem dX7_wrongOfThing_86 : decode cX7_wrongOfThing 86 = .ok (.ireturn, 1) := by decide +kernel
theorem dX7_columnsCovered_0 : decode cX7_columnsCovered 0 = .ok (.iconst 0, 1) := by decide +kernel
theorem dX7_columnsCovered_1 : decode cX7_columnsCovered 1 = .ok (.bipush 16, 2) := by decide +kernel
theorem dX7_columnsCovered_3 : decode cX7_columnsCovered 3 = .ok (.iload_n 0, 1) := by decide +kernel
theorem dX7_columnsCovered_4 : decode cX7_columnsCovered 4 = .ok (.bipush 49, 2) := by decide +kernel
theorem dX7_columnsCovered_6 : decode cX7_columnsCovered 6 = .ok (.iadd, 1) := by decide +kernel
theorem dX7_columnsCovered_7 : decode cX7_columnsCovered 7 = .ok (.bipush 100, 2) := by decide +kernel
theorem dX7_columnsCovered_9 : decode cX7_columnsCovered 9 = .ok (.invokestatic 302, 3) := by decide +kernel
theorem dX7_columnsCovered_12 : decode cX7_columnsCovered 12 = .ok (.invokestatic 307, 3) := by decide +kernel
theorem dX7_columnsCovered_15 : decode cX7_columnsCovered 15 = .ok (.invokestatic 310, 3) := by decide +kernel
theorem dX7_columnsCovered_18 : decode cX7_columnsCovered 18 = .ok (.istore_n 2, 1) := by decide +kernel
theorem dX7_columnsCovered_19 : decode cX7_columnsCovered 19 = .ok (.iconst 0, 1) := by decide +kernel
theorem dX7_columnsCovered_20 : decode cX7_columnsCovered 20 = .ok (.bipush 16, 2) := by decide +kernel
theorem dX7_columnsCovered_22 : decode cX7_columnsCovered 22 = .ok (.iload_n 0, 1) := by decide +kernel
theorem dX7_columnsCovered_23 : decode cX7_columnsCovered 23 = .ok (.iload_n 1, 1) := by decide +kernel
theorem dX7_columnsCovered_24 : decode cX7_columnsCovered 24 = .ok (.iadd, 1) := by decide +kernel
theorem dX7_columnsCovered_25 : decode cX7_columnsCovered 25 = .ok (.bipush 49, 2) := by decide +kernel
theorem dX7_columnsCovered_27 : decode cX7_columnsCovered 27 = .ok (.iadd, 1) := by decide +kernel
theorem dX7_columnsCovered_28 : decode cX7_columnsCovered 28 = .ok (.bipush 100, 2) := by decide +kernel
theorem dX7_columnsCovered_30 : decode cX7_columnsCovered 30 = .ok (.invokestatic 302, 3) := by decide +kernel
theorem dX7_columnsCovered_33 : decode cX7_columnsCovered 33 = .ok (.invokestatic 307, 3) := by decide +kernel
theorem dX7_columnsCovered_36 : decode cX7_columnsCovered 36 = .ok (.invokestatic 310, 3) := by decide +kernel
theorem dX7_columnsCovered_39 : decode cX7_columnsCovered 39 = .ok (.istore_n 3, 1) := by decide +kernel
theorem dX7_columnsCovered_40 : decode cX7_columnsCovered 40 = .ok (.iconst 1, 1) := by decide +kernel
theorem dX7_columnsCovered_41 : decode cX7_columnsCovered 41 = .ok (.iload_n 3, 1) := by decide +kernel
theorem dX7_columnsCovered_42 : decode cX7_columnsCovered 42 = .ok (.ishl, 1) := by decide +kernel
theorem dX7_columnsCovered_43 : decode cX7_columnsCovered 43 = .ok (.iconst 1, 1) := by decide +kernel
theorem dX7_columnsCovered_44 : decode cX7_columnsCovered 44 = .ok (.iload_n 2, 1) := by decide +kernel
theorem dX7_columnsCovered_45 : decode cX7_columnsCovered 45 = .ok (.ishl, 1) := by decide +kernel
theorem dX7_columnsCovered_46 : decode cX7_columnsCovered 46 = .ok (.isub, 1) := by decide +kernel
theorem dX7_columnsCovered_47 : decode cX7_columnsCovered 47 = .ok (.ireturn, 1) := by decide +kernel
theorem dJ6_bitCount_0f7a4_0 : decode cJ6_bitCount_0f7a4 0 = .ok (.iload_n 0, 1) := by decide +kernel
theorem dJ6_bitCount_0f7a4_1 : decode cJ6_bitCount_0f7a4 1 = .ok (.iload_n 0, 1) := by decide +kernel
theorem dJ6_bitCount_0f7a4_2 : decode cJ6_bitCount_0f7a4 2 = .ok (.iconst 1, 1) := by decide +kernel
theorem dJ6_bitCount_0f7a4_3 : decode cJ6_bitCount_0f7a4 3 = .ok (.iushr, 1) := by decide +kernel
theorem dJ6_bitCount_0f7a4_4 : decode cJ6_bitCount_0f7a4 4 = .ok (.ldc_w 265, 3) := by decide +kernel
theorem dJ6_bitCount_0f7a4_7 : decode cJ6_bitCount_0f7a4 7 = .ok (.iand, 1) := by decide +kernel
theorem dJ6_bitCount_0f7a4_8 : decode cJ6_bitCount_0f7a4 8 = .ok (.isub, 1) := by decide +kernel
theorem dJ6_bitCount_0f7a4_9 : decode cJ6_bitCount_0f7a4 9 = .ok (.istore_n 0, 1) := by decide +kernel
theorem dJ6_bitCount_0f7a4_10 : decode cJ6_bitCount_0f7a4 10 = .ok (.iload_n 0, 1) := by decide +kernel
theorem dJ6_bitCount_0f7a4_11 : decode cJ6_bitCount_0f7a4 11 = .ok (.ldc_w 266, 3) := by decide +kernel
theorem dJ6_bitCount_0f7a4_14 : decode cJ6_bitCount_0f7a4 14 = .ok (.iand, 1) := by decide +kernel
theorem dJ6_bitCount_0f7a4_15 : decode cJ6_bitCount_0f7a4 15 = .ok (.iload_n 0, 1) := by decide +kernel
theorem dJ6_bitCount_0f7a4_16 : decode cJ6_bitCount_0f7a4 16 = .ok (.iconst 2, 1) := by decide +kernel
theorem dJ6_bitCount_0f7a4_17 : decode cJ6_bitCount_0f7a4 17 = .ok (.iushr, 1) := by decide +kernel
theorem dJ6_bitCount_0f7a4_18 : decode cJ6_bitCount_0f7a4 18 = .ok (.ldc_w 266, 3) := by decide +kernel
theorem dJ6_bitCount_0f7a4_21 : decode cJ6_bitCount_0f7a4 21 = .ok (.iand, 1) := by decide +kernel
theorem dJ6_bitCount_0f7a4_22 : decode cJ6_bitCount_0f7a4 22 = .ok (.iadd, 1) := by decide +kernel
theorem dJ6_bitCount_0f7a4_23 : decode cJ6_bitCount_0f7a4 23 = .ok (.istore_n 0, 1) := by decide +kernel
theorem dJ6_bitCount_0f7a4_24 : decode cJ6_bitCount_0f7a4 24 = .ok (.iload_n 0, 1) := by decide +kernel
theorem dJ6_bitCount_0f7a4_25 : decode cJ6_bitCount_0f7a4 25 = .ok (.iload_n 0, 1) := by decide +kernel
theorem dJ6_bitCount_0f7a4_26 : decode cJ6_bitCount_0f7a4 26 = .ok (.iconst 4, 1) := by decide +kernel
theorem dJ6_bitCount_0f7a4_27 : decode cJ6_bitCount_0f7a4 27 = .ok (.iushr, 1) := by decide +kernel
theorem dJ6_bitCount_0f7a4_28 : decode cJ6_bitCount_0f7a4 28 = .ok (.iadd, 1) := by decide +kernel
theorem dJ6_bitCount_0f7a4_29 : decode cJ6_bitCount_0f7a4 29 = .ok (.ldc_w 267, 3) := by decide +kernel
theorem dJ6_bitCount_0f7a4_32 : decode cJ6_bitCount_0f7a4 32 = .ok (.iand, 1) := by decide +kernel
theorem dJ6_bitCount_0f7a4_33 : decode cJ6_bitCount_0f7a4 33 = .ok (.istore_n 0, 1) := by decide +kernel
theorem dJ6_bitCount_0f7a4_34 : decode cJ6_bitCount_0f7a4 34 = .ok (.iload_n 0, 1) := by decide +kernel
theorem dJ6_bitCount_0f7a4_35 : decode cJ6_bitCount_0f7a4 35 = .ok (.iload_n 0, 1) := by decide +kernel
theorem dJ6_bitCount_0f7a4_36 : decode cJ6_bitCount_0f7a4 36 = .ok (.bipush 8, 2) := by decide +kernel
theorem dJ6_bitCount_0f7a4_38 : decode cJ6_bitCount_0f7a4 38 = .ok (.iushr, 1) := by decide +kernel
theorem dJ6_bitCount_0f7a4_39 : decode cJ6_bitCount_0f7a4 39 = .ok (.iadd, 1) := by decide +kernel
theorem dJ6_bitCount_0f7a4_40 : decode cJ6_bitCount_0f7a4 40 = .ok (.istore_n 0, 1) := by decide +kernel
theorem dJ6_bitCount_0f7a4_41 : decode cJ6_bitCount_0f7a4 41 = .ok (.iload_n 0, 1) := by decide +kernel
theorem dJ6_bitCount_0f7a4_42 : decode cJ6_bitCount_0f7a4 42 = .ok (.iload_n 0, 1) := by decide +kernel
theorem dJ6_bitCount_0f7a4_43 : decode cJ6_bitCount_0f7a4 43 = .ok (.bipush 16, 2) := by decide +kernel
theorem dJ6_bitCount_0f7a4_45 : decode cJ6_bitCount_0f7a4 45 = .ok (.iushr, 1) := by decide +kernel
theorem dJ6_bitCount_0f7a4_46 : decode cJ6_bitCount_0f7a4 46 = .ok (.iadd, 1) := by decide +kernel
theorem dJ6_bitCount_0f7a4_47 : decode cJ6_bitCount_0f7a4 47 = .ok (.istore_n 0, 1) := by decide +kernel
theorem dJ6_bitCount_0f7a4_48 : decode cJ6_bitCount_0f7a4 48 = .ok (.iload_n 0, 1) := by decide +kernel
theorem dJ6_bitCount_0f7a4_49 : decode cJ6_bitCount_0f7a4 49 = .ok (.bipush 63, 2) := by decide +kernel
theorem dJ6_bitCount_0f7a4_51 : decode cJ6_bitCount_0f7a4 51 = .ok (.iand, 1) := by decide +kernel
theorem dJ6_bitCount_0f7a4_52 : decode cJ6_bitCount_0f7a4 52 = .ok (.ireturn, 1) := by decide +kernel
theorem dJ9_floorDiv_7cf53_0 : decode cJ9_floorDiv_7cf53 0 = .ok (.iload_n 0, 1) := by decide +kernel
theorem dJ9_floorDiv_7cf53_1 : decode cJ9_floorDiv_7cf53 1 = .ok (.iload_n 1, 1) := by decide +kernel
theorem dJ9_floorDiv_7cf53_2 : decode cJ9_floorDiv_7cf53 2 = .ok (.idiv, 1) := by decide +kernel
theorem dJ9_floorDiv_7cf53_3 : decode cJ9_floorDiv_7cf53 3 = .ok (.istore_n 2, 1) := by decide +kernel
theorem dJ9_floorDiv_7cf53_4 : decode cJ9_floorDiv_7cf53 4 = .ok (.iload_n 0, 1) := by decide +kernel
theorem dJ9_floorDiv_7cf53_5 : decode cJ9_floorDiv_7cf53 5 = .ok (.iload_n 1, 1) := by decide +kernel
theorem dJ9_floorDiv_7cf53_6 : decode cJ9_floorDiv_7cf53 6 = .ok (.ixor, 1) := by decide +kernel
theorem dJ9_floorDiv_7cf53_7 : decode cJ9_floorDiv_7cf53 7 = .ok (.ifCond .ge 14, 3) := by decide +kernel
theorem dJ9_floorDiv_7cf53_10 : decode cJ9_floorDiv_7cf53 10 = .ok (.iload_n 2, 1) := by decide +kernel
theorem dJ9_floorDiv_7cf53_11 : decode cJ9_floorDiv_7cf53 11 = .ok (.iload_n 1, 1) := by decide +kernel
theorem dJ9_floorDiv_7cf53_12 : decode cJ9_floorDiv_7cf53 12 = .ok (.imul, 1) := by decide +kernel
theorem dJ9_floorDiv_7cf53_13 : decode cJ9_floorDiv_7cf53 13 = .ok (.iload_n 0, 1) := by decide +kernel
theorem dJ9_floorDiv_7cf53_14 : decode cJ9_floorDiv_7cf53 14 = .ok (.if_icmp .eq 7, 3) := by decide +kernel
theorem dJ9_floorDiv_7cf53_17 : decode cJ9_floorDiv_7cf53 17 = .ok (.iload_n 2, 1) := by decide +kernel
theorem dJ9_floorDiv_7cf53_18 : decode cJ9_floorDiv_7cf53 18 = .ok (.iconst 1, 1) := by decide +kernel
theorem dJ9_floorDiv_7cf53_19 : decode cJ9_floorDiv_7cf53 19 = .ok (.isub, 1) := by decide +kernel
theorem dJ9_floorDiv_7cf53_20 : decode cJ9_floorDiv_7cf53 20 = .ok (.ireturn, 1) := by decide +kernel
theorem dJ9_floorDiv_7cf53_21 : decode cJ9_floorDiv_7cf53 21 = .ok (.iload_n 2, 1) := by decide +kernel
theorem dJ9_floorDiv_7cf53_22 : decode cJ9_floorDiv_7cf53 22 = .ok (.ireturn, 1) := by decide +kernel
theorem dJ9_abs_0f7a4_0 : decode cJ9_abs_0f7a4 0 = .ok (.iload_n 0, 1) := by decide +kernel
theorem dJ9_abs_0f7a4_1 : decode cJ9_abs_0f7a4 1 = .ok (.ifCond .ge 8, 3) := by decide +kernel
theorem dJ9_abs_0f7a4_4 : decode cJ9_abs_0f7a4 4 = .ok (.iload_n 0, 1) := by decide +kernel
theorem dJ9_abs_0f7a4_5 : decode cJ9_abs_0f7a4 5 = .ok (.ineg, 1) := by decide +kernel
theorem dJ9_abs_0f7a4_6 : decode cJ9_abs_0f7a4 6 = .ok (.goto 4, 3) := by decide +kernel
theorem dJ9_abs_0f7a4_9 : decode cJ9_abs_0f7a4 9 = .ok (.iload_n 0, 1) := by decide +kernel
theorem dJ9_abs_0f7a4_10 : decode cJ9_abs_0f7a4 10 = .ok (.ireturn, 1) := by decide +kernel
theorem dJ9_max_7cf53_0 : decode cJ9_max_7cf53 0 = .ok (.iload_n 0, 1) := by decide +kernel
theorem dJ9_max_7cf53_1 : decode cJ9_max_7cf53 1 = .ok (.iload_n 1, 1) := by decide +kernel
theorem dJ9_max_7cf53_2 : decode cJ9_max_7cf53 2 = .ok (.if_icmp .lt 7, 3) := by decide +kernel
theorem dJ9_max_7cf53_5 : decode cJ9_max_7cf53 5 = .ok (.iload_n 0, 1) := by decide +kernel
theorem dJ9_max_7cf53_6 : decode cJ9_max_7cf53 6 = .ok (.goto 4, 3) := by decide +kernel
theorem dJ9_max_7cf53_9 : decode cJ9_max_7cf53 9 = .ok (.iload_n 1, 1) := by decide +kernel
theorem dJ9_max_7cf53_10 : decode cJ9_max_7cf53 10 = .ok (.ireturn, 1) := by decide +kernel
theorem dJ9_min_7cf53_0 : decode cJ9_min_7cf53 0 = .ok (.iload_n 0, 1) := by decide +kernel
theorem dJ9_min_7cf53_1 : decode cJ9_min_7cf53 1 = .ok (.iload_n 1, 1) := by decide +kernel
theorem dJ9_min_7cf53_2 : decode cJ9_min_7cf53 2 = .ok (.if_icmp .gt 7, 3) := by decide +kernel
theorem dJ9_min_7cf53_5 : decode cJ9_min_7cf53 5 = .ok (.iload_n 0, 1) := by decide +kernel
theorem dJ9_min_7cf53_6 : decode cJ9_min_7cf53 6 = .ok (.goto 4, 3) := by decide +kernel
theorem dJ9_min_7cf53_9 : decode cJ9_min_7cf53 9 = .ok (.iload_n 1, 1) := by decide +kernel
theorem dJ9_min_7cf53_10 : decode cJ9_min_7cf53 10 = .ok (.ireturn, 1) := by decide +kernel
