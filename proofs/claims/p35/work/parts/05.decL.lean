theorem dL_cell_0 : decode cL_cell 0 = .ok (.iload_n 1, 1) := by decide +kernel
theorem dL_cell_1 : decode cL_cell 1 = .ok (.aload_n 0, 1) := by decide +kernel
theorem dL_cell_2 : decode cL_cell 2 = .ok (.arraylength, 1) := by decide +kernel
theorem dL_cell_3 : decode cL_cell 3 = .ok (.if_icmp .ge 9, 3) := by decide +kernel
theorem dL_cell_6 : decode cL_cell 6 = .ok (.aload_n 0, 1) := by decide +kernel
theorem dL_cell_7 : decode cL_cell 7 = .ok (.iload_n 1, 1) := by decide +kernel
theorem dL_cell_8 : decode cL_cell 8 = .ok (.iaload, 1) := by decide +kernel
theorem dL_cell_9 : decode cL_cell 9 = .ok (.goto 11, 3) := by decide +kernel
theorem dL_cell_12 : decode cL_cell 12 = .ok (.sipush 16807, 3) := by decide +kernel
theorem dL_cell_15 : decode cL_cell 15 = .ok (.iload_n 1, 1) := by decide +kernel
theorem dL_cell_16 : decode cL_cell 16 = .ok (.bipush 13, 2) := by decide +kernel
theorem dL_cell_18 : decode cL_cell 18 = .ok (.iadd, 1) := by decide +kernel
theorem dL_cell_19 : decode cL_cell 19 = .ok (.imul, 1) := by decide +kernel
theorem dL_cell_20 : decode cL_cell 20 = .ok (.ldc 7, 2) := by decide +kernel
theorem dL_cell_22 : decode cL_cell 22 = .ok (.iand, 1) := by decide +kernel
theorem dL_cell_23 : decode cL_cell 23 = .ok (.ireturn, 1) := by decide +kernel
theorem dL_has_0 : decode cL_has 0 = .ok (.iload_n 0, 1) := by decide +kernel
theorem dL_has_1 : decode cL_has 1 = .ok (.iload_n 1, 1) := by decide +kernel
theorem dL_has_2 : decode cL_has 2 = .ok (.ishr, 1) := by decide +kernel
theorem dL_has_3 : decode cL_has 3 = .ok (.iconst 1, 1) := by decide +kernel
theorem dL_has_4 : decode cL_has 4 = .ok (.iand, 1) := by decide +kernel
theorem dL_has_5 : decode cL_has 5 = .ok (.iconst 1, 1) := by decide +kernel
theorem dL_has_6 : decode cL_has 6 = .ok (.if_icmp .ne 7, 3) := by decide +kernel
theorem dL_has_9 : decode cL_has 9 = .ok (.iconst 1, 1) := by decide +kernel
theorem dL_has_10 : decode cL_has 10 = .ok (.goto 4, 3) := by decide +kernel
theorem dL_has_13 : decode cL_has 13 = .ok (.iconst 0, 1) := by decide +kernel
theorem dL_has_14 : decode cL_has 14 = .ok (.ireturn, 1) := by decide +kernel
theorem dL_bits_0 : decode cL_bits 0 = .ok (.iconst 0, 1) := by decide +kernel
theorem dL_bits_1 : decode cL_bits 1 = .ok (.istore_n 1, 1) := by decide +kernel
theorem dL_bits_2 : decode cL_bits 2 = .ok (.iconst 0, 1) := by decide +kernel
theorem dL_bits_3 : decode cL_bits 3 = .ok (.istore_n 2, 1) := by decide +kernel
theorem dL_bits_4 : decode cL_bits 4 = .ok (.iload_n 2, 1) := by decide +kernel
theorem dL_bits_5 : decode cL_bits 5 = .ok (.bipush 17, 2) := by decide +kernel
theorem dL_bits_7 : decode cL_bits 7 = .ok (.if_icmp .ge 17, 3) := by decide +kernel
theorem dL_bits_10 : decode cL_bits 10 = .ok (.iload_n 1, 1) := by decide +kernel
theorem dL_bits_11 : decode cL_bits 11 = .ok (.iload_n 0, 1) := by decide +kernel
theorem dL_bits_12 : decode cL_bits 12 = .ok (.iload_n 2, 1) := by decide +kernel
theorem dL_bits_13 : decode cL_bits 13 = .ok (.ishr, 1) := by decide +kernel
theorem dL_bits_14 : decode cL_bits 14 = .ok (.iconst 1, 1) := by decide +kernel
theorem dL_bits_15 : decode cL_bits 15 = .ok (.iand, 1) := by decide +kernel
theorem dL_bits_16 : decode cL_bits 16 = .ok (.iadd, 1) := by decide +kernel
theorem dL_bits_17 : decode cL_bits 17 = .ok (.istore_n 1, 1) := by decide +kernel
theorem dL_bits_18 : decode cL_bits 18 = .ok (.iinc 2 1, 3) := by decide +kernel
theorem dL_bits_21 : decode cL_bits 21 = .ok (.goto (-17), 3) := by decide +kernel
theorem dL_bits_24 : decode cL_bits 24 = .ok (.iload_n 1, 1) := by decide +kernel
theorem dL_bits_25 : decode cL_bits 25 = .ok (.ireturn, 1) := by decide +kernel
theorem dL_blinded_0 : decode cL_blinded 0 = .ok (.iconst 0, 1) := by decide +kernel
theorem dL_blinded_1 : decode cL_blinded 1 = .ok (.istore_n 1, 1) := by decide +kernel
theorem dL_blinded_2 : decode cL_blinded 2 = .ok (.iconst 0, 1) := by decide +kernel
theorem dL_blinded_3 : decode cL_blinded 3 = .ok (.istore_n 2, 1) := by decide +kernel
theorem dL_blinded_4 : decode cL_blinded 4 = .ok (.iload_n 2, 1) := by decide +kernel
theorem dL_blinded_5 : decode cL_blinded 5 = .ok (.bipush 10, 2) := by decide +kernel
theorem dL_blinded_7 : decode cL_blinded 7 = .ok (.if_icmp .ge 20, 3) := by decide +kernel
theorem dL_blinded_10 : decode cL_blinded 10 = .ok (.iload_n 1, 1) := by decide +kernel
theorem dL_blinded_11 : decode cL_blinded 11 = .ok (.aload_n 0, 1) := by decide +kernel
theorem dL_blinded_12 : decode cL_blinded 12 = .ok (.iload_n 2, 1) := by decide +kernel
theorem dL_blinded_13 : decode cL_blinded 13 = .ok (.iconst 0, 1) := by decide +kernel
theorem dL_blinded_14 : decode cL_blinded 14 = .ok (.invokevirtual 8, 3) := by decide +kernel
theorem dL_blinded_17 : decode cL_blinded 17 = .ok (.iload_n 2, 1) := by decide +kernel
theorem dL_blinded_18 : decode cL_blinded 18 = .ok (.ishl, 1) := by decide +kernel
theorem dL_blinded_19 : decode cL_blinded 19 = .ok (.ior, 1) := by decide +kernel
theorem dL_blinded_20 : decode cL_blinded 20 = .ok (.istore_n 1, 1) := by decide +kernel
theorem dL_blinded_21 : decode cL_blinded 21 = .ok (.iinc 2 1, 3) := by decide +kernel
theorem dL_blinded_24 : decode cL_blinded 24 = .ok (.goto (-20), 3) := by decide +kernel
theorem dL_blinded_27 : decode cL_blinded 27 = .ok (.iload_n 1, 1) := by decide +kernel
theorem dL_blinded_28 : decode cL_blinded 28 = .ok (.ireturn, 1) := by decide +kernel
theorem dL_camera_0 : decode cL_camera 0 = .ok (.aload_n 0, 1) := by decide +kernel
theorem dL_camera_1 : decode cL_camera 1 = .ok (.iconst 0, 1) := by decide +kernel
theorem dL_camera_2 : decode cL_camera 2 = .ok (.iconst 1, 1) := by decide +kernel
theorem dL_camera_3 : decode cL_camera 3 = .ok (.aload_n 1, 1) := by decide +kernel
theorem dL_camera_4 : decode cL_camera 4 = .ok (.iconst 0, 1) := by decide +kernel
theorem dL_camera_5 : decode cL_camera 5 = .ok (.invokestatic 14, 3) := by decide +kernel
theorem dL_camera_8 : decode cL_camera 8 = .ok (.bipush 10, 2) := by decide +kernel
theorem dL_camera_10 : decode cL_camera 10 = .ok (.irem, 1) := by decide +kernel
theorem dL_camera_11 : decode cL_camera 11 = .ok (.iadd, 1) := by decide +kernel
theorem dL_camera_12 : decode cL_camera 12 = .ok (.invokevirtual 20, 3) := by decide +kernel
theorem dL_camera_15 : decode cL_camera 15 = .ok (.pop, 1) := by decide +kernel
theorem dL_camera_16 : decode cL_camera 16 = .ok (.aload_n 0, 1) := by decide +kernel
theorem dL_camera_17 : decode cL_camera 17 = .ok (.iconst 1, 1) := by decide +kernel
theorem dL_camera_18 : decode cL_camera 18 = .ok (.iconst 4, 1) := by decide +kernel
theorem dL_camera_19 : decode cL_camera 19 = .ok (.aload_n 1, 1) := by decide +kernel
theorem dL_camera_20 : decode cL_camera 20 = .ok (.iconst 1, 1) := by decide +kernel
theorem dL_camera_21 : decode cL_camera 21 = .ok (.invokestatic 14, 3) := by decide +kernel
theorem dL_camera_24 : decode cL_camera 24 = .ok (.bipush 13, 2) := by decide +kernel
theorem dL_camera_26 : decode cL_camera 26 = .ok (.irem, 1) := by decide +kernel
theorem dL_camera_27 : decode cL_camera 27 = .ok (.iadd, 1) := by decide +kernel
theorem dL_camera_28 : decode cL_camera 28 = .ok (.invokevirtual 20, 3) := by decide +kernel
theorem dL_camera_31 : decode cL_camera 31 = .ok (.pop, 1) := by decide +kernel
theorem dL_camera_32 : decode cL_camera 32 = .ok (.aload_n 0, 1) := by decide +kernel
theorem dL_camera_33 : decode cL_camera 33 = .ok (.iconst 2, 1) := by decide +kernel
theorem dL_camera_34 : decode cL_camera 34 = .ok (.aload_n 1, 1) := by decide +kernel
theorem dL_camera_35 : decode cL_camera 35 = .ok (.iconst 2, 1) := by decide +kernel
theorem dL_camera_36 : decode cL_camera 36 = .ok (.invokestatic 14, 3) := by decide +kernel
theorem dL_camera_39 : decode cL_camera 39 = .ok (.iconst 4, 1) := by decide +kernel
theorem dL_camera_40 : decode cL_camera 40 = .ok (.irem, 1) := by decide +kernel
theorem dL_camera_41 : decode cL_camera 41 = .ok (.invokevirtual 20, 3) := by decide +kernel
theorem dL_camera_44 : decode cL_camera 44 = .ok (.pop, 1) := by decide +kernel
theorem dL_camera_45 : decode cL_camera 45 = .ok (.aload_n 0, 1) := by decide +kernel
theorem dL_camera_46 : decode cL_camera 46 = .ok (.iconst 3, 1) := by decide +kernel
theorem dL_camera_47 : decode cL_camera 47 = .ok (.iconst 1, 1) := by decide +kernel
theorem dL_camera_48 : decode cL_camera 48 = .ok (.aload_n 1, 1) := by decide +kernel
theorem dL_camera_49 : decode cL_camera 49 = .ok (.iconst 3, 1) := by decide +kernel
theorem dL_camera_50 : decode cL_camera 50 = .ok (.invokestatic 14, 3) := by decide +kernel
theorem dL_camera_53 : decode cL_camera 53 = .ok (.bipush 60, 2) := by decide +kernel
theorem dL_camera_55 : decode cL_camera 55 = .ok (.irem, 1) := by decide +kernel
theorem dL_camera_56 : decode cL_camera 56 = .ok (.iadd, 1) := by decide +kernel
theorem dL_camera_57 : decode cL_camera 57 = .ok (.invokevirtual 20, 3) := by decide +kernel
theorem dL_camera_60 : decode cL_camera 60 = .ok (.pop, 1) := by decide +kernel
theorem dL_camera_61 : decode cL_camera 61 = .ok (.iconst 0, 1) := by decide +kernel
theorem dL_camera_62 : decode cL_camera 62 = .ok (.istore_n 2, 1) := by decide +kernel
theorem dL_camera_63 : decode cL_camera 63 = .ok (.iload_n 2, 1) := by decide +kernel
theorem dL_camera_64 : decode cL_camera 64 = .ok (.iconst 3, 1) := by decide +kernel
theorem dL_camera_65 : decode cL_camera 65 = .ok (.if_icmp .ge 85, 3) := by decide +kernel
theorem dL_camera_68 : decode cL_camera 68 = .ok (.aload_n 1, 1) := by decide +kernel
theorem dL_camera_69 : decode cL_camera 69 = .ok (.iconst 4, 1) := by decide +kernel
theorem dL_camera_70 : decode cL_camera 70 = .ok (.iload_n 2, 1) := by decide +kernel
theorem dL_camera_71 : decode cL_camera 71 = .ok (.iadd, 1) := by decide +kernel
theorem dL_camera_72 : decode cL_camera 72 = .ok (.invokestatic 14, 3) := by decide +kernel
theorem dL_camera_75 : decode cL_camera 75 = .ok (.istore_n 3, 1) := by decide +kernel
theorem dL_camera_76 : decode cL_camera 76 = .ok (.iload_n 3, 1) := by decide +kernel
theorem dL_camera_77 : decode cL_camera 77 = .ok (.iconst 5, 1) := by decide +kernel
theorem dL_camera_78 : decode cL_camera 78 = .ok (.irem, 1) := by decide +kernel
theorem dL_camera_79 : decode cL_camera 79 = .ok (.istore 4, 2) := by decide +kernel
theorem dL_camera_81 : decode cL_camera 81 = .ok (.aload_n 0, 1) := by decide +kernel
theorem dL_camera_82 : decode cL_camera 82 = .ok (.iload 4, 2) := by decide +kernel
theorem dL_camera_84 : decode cL_camera 84 = .ok (.iload 4, 2) := by decide +kernel
theorem dL_camera_86 : decode cL_camera 86 = .ok (.iload_n 3, 1) := by decide +kernel
theorem dL_camera_87 : decode cL_camera 87 = .ok (.bipush 8, 2) := by decide +kernel
theorem dL_camera_89 : decode cL_camera 89 = .ok (.idiv, 1) := by decide +kernel
theorem dL_camera_90 : decode cL_camera 90 = .ok (.iconst 5, 1) := by decide +kernel
theorem dL_camera_91 : decode cL_camera 91 = .ok (.irem, 1) := by decide +kernel
theorem dL_camera_92 : decode cL_camera 92 = .ok (.iadd, 1) := by decide +kernel
theorem dL_camera_93 : decode cL_camera 93 = .ok (.bipush 100, 2) := by decide +kernel
theorem dL_camera_95 : decode cL_camera 95 = .ok (.iload_n 3, 1) := by decide +kernel
theorem dL_camera_96 : decode cL_camera 96 = .ok (.bipush 64, 2) := by decide +kernel
theorem dL_camera_98 : decode cL_camera 98 = .ok (.idiv, 1) := by decide +kernel
theorem dL_camera_99 : decode cL_camera 99 = .ok (.bipush 16, 2) := by decide +kernel
theorem dL_camera_101 : decode cL_camera 101 = .ok (.irem, 1) := by decide +kernel
theorem dL_camera_102 : decode cL_camera 102 = .ok (.iconst 3, 1) := by decide +kernel
theorem dL_camera_103 : decode cL_camera 103 = .ok (.isub, 1) := by decide +kernel
theorem dL_camera_104 : decode cL_camera 104 = .ok (.imul, 1) := by decide +kernel
theorem dL_camera_105 : decode cL_camera 105 = .ok (.bipush 10, 2) := by decide +kernel
theorem dL_camera_107 : decode cL_camera 107 = .ok (.iload_n 3, 1) := by decide +kernel
theorem dL_camera_108 : decode cL_camera 108 = .ok (.sipush 1024, 3) := by decide +kernel
theorem dL_camera_111 : decode cL_camera 111 = .ok (.idiv, 1) := by decide +kernel
theorem dL_camera_112 : decode cL_camera 112 = .ok (.bipush 21, 2) := by decide +kernel
theorem dL_camera_114 : decode cL_camera 114 = .ok (.irem, 1) := by decide +kernel
theorem dL_camera_115 : decode cL_camera 115 = .ok (.bipush 10, 2) := by decide +kernel
theorem dL_camera_117 : decode cL_camera 117 = .ok (.isub, 1) := by decide +kernel
theorem dL_camera_118 : decode cL_camera 118 = .ok (.imul, 1) := by decide +kernel
theorem dL_camera_119 : decode cL_camera 119 = .ok (.bipush 50, 2) := by decide +kernel
theorem dL_camera_121 : decode cL_camera 121 = .ok (.bipush 50, 2) := by decide +kernel
theorem dL_camera_123 : decode cL_camera 123 = .ok (.iload_n 3, 1) := by decide +kernel
theorem dL_camera_124 : decode cL_camera 124 = .ok (.ldc 23, 2) := by decide +kernel
theorem dL_camera_126 : decode cL_camera 126 = .ok (.idiv, 1) := by decide +kernel
theorem dL_camera_127 : decode cL_camera 127 = .ok (.bipush 12, 2) := by decide +kernel
theorem dL_camera_129 : decode cL_camera 129 = .ok (.irem, 1) := by decide +kernel
theorem dL_camera_130 : decode cL_camera 130 = .ok (.imul, 1) := by decide +kernel
theorem dL_camera_131 : decode cL_camera 131 = .ok (.iadd, 1) := by decide +kernel
theorem dL_camera_132 : decode cL_camera 132 = .ok (.iload_n 3, 1) := by decide +kernel
theorem dL_camera_133 : decode cL_camera 133 = .ok (.ldc 24, 2) := by decide +kernel
theorem dL_camera_135 : decode cL_camera 135 = .ok (.idiv, 1) := by decide +kernel
theorem dL_camera_136 : decode cL_camera 136 = .ok (.sipush 256, 3) := by decide +kernel
theorem dL_camera_139 : decode cL_camera 139 = .ok (.irem, 1) := by decide +kernel
theorem dL_camera_140 : decode cL_camera 140 = .ok (.invokevirtual 25, 3) := by decide +kernel
theorem dL_camera_143 : decode cL_camera 143 = .ok (.pop, 1) := by decide +kernel
theorem dL_camera_144 : decode cL_camera 144 = .ok (.iinc 2 1, 3) := by decide +kernel
theorem dL_camera_147 : decode cL_camera 147 = .ok (.goto (-84), 3) := by decide +kernel
theorem dL_camera_150 : decode cL_camera 150 = .ok (.return_, 1) := by decide +kernel
theorem dL_frameHolds_0 : decode cL_frameHolds 0 = .ok (.aload_n 0, 1) := by decide +kernel
theorem dL_frameHolds_1 : decode cL_frameHolds 1 = .ok (.bipush 10, 2) := by decide +kernel
theorem dL_frameHolds_3 : decode cL_frameHolds 3 = .ok (.invokevirtual 29, 3) := by decide +kernel
theorem dL_frameHolds_6 : decode cL_frameHolds 6 = .ok (.istore_n 2, 1) := by decide +kernel
theorem dL_frameHolds_7 : decode cL_frameHolds 7 = .ok (.aload_n 0, 1) := by decide +kernel
theorem dL_frameHolds_8 : decode cL_frameHolds 8 = .ok (.bipush 11, 2) := by decide +kernel
theorem dL_frameHolds_10 : decode cL_frameHolds 10 = .ok (.invokevirtual 29, 3) := by decide +kernel
theorem dL_frameHolds_13 : decode cL_frameHolds 13 = .ok (.istore_n 3, 1) := by decide +kernel
theorem dL_frameHolds_14 : decode cL_frameHolds 14 = .ok (.aload_n 0, 1) := by decide +kernel
theorem dL_frameHolds_15 : decode cL_frameHolds 15 = .ok (.bipush 13, 2) := by decide +kernel
theorem dL_frameHolds_17 : decode cL_frameHolds 17 = .ok (.invokevirtual 29, 3) := by decide +kernel
theorem dL_frameHolds_20 : decode cL_frameHolds 20 = .ok (.istore 4, 2) := by decide +kernel
theorem dL_frameHolds_22 : decode cL_frameHolds 22 = .ok (.aload_n 0, 1) := by decide +kernel
theorem dL_frameHolds_23 : decode cL_frameHolds 23 = .ok (.iload_n 1, 1) := by decide +kernel
theorem dL_frameHolds_24 : decode cL_frameHolds 24 = .ok (.iconst 1, 1) := by decide +kernel
theorem dL_frameHolds_25 : decode cL_frameHolds 25 = .ok (.invokevirtual 33, 3) := by decide +kernel
theorem dL_frameHolds_28 : decode cL_frameHolds 28 = .ok (.istore 5, 2) := by decide +kernel
theorem dL_frameHolds_30 : decode cL_frameHolds 30 = .ok (.iconst 0, 1) := by decide +kernel
theorem dL_frameHolds_31 : decode cL_frameHolds 31 = .ok (.istore 6, 2) := by decide +kernel
theorem dL_frameHolds_33 : decode cL_frameHolds 33 = .ok (.iload 5, 2) := by decide +kernel
theorem dL_frameHolds_35 : decode cL_frameHolds 35 = .ok (.ifCond .lt 29, 3) := by decide +kernel
theorem dL_frameHolds_38 : decode cL_frameHolds 38 = .ok (.iload 5, 2) := by decide +kernel
theorem dL_frameHolds_40 : decode cL_frameHolds 40 = .ok (.iconst 1, 1) := by decide +kernel
theorem dL_frameHolds_41 : decode cL_frameHolds 41 = .ok (.iload_n 2, 1) := by decide +kernel
theorem dL_frameHolds_42 : decode cL_frameHolds 42 = .ok (.ishl, 1) := by decide +kernel
theorem dL_frameHolds_43 : decode cL_frameHolds 43 = .ok (.if_icmp .ge 21, 3) := by decide +kernel
theorem dL_frameHolds_46 : decode cL_frameHolds 46 = .ok (.aload_n 0, 1) := by decide +kernel
theorem dL_frameHolds_47 : decode cL_frameHolds 47 = .ok (.iload_n 1, 1) := by decide +kernel
theorem dL_frameHolds_48 : decode cL_frameHolds 48 = .ok (.iconst 0, 1) := by decide +kernel
theorem dL_frameHolds_49 : decode cL_frameHolds 49 = .ok (.invokevirtual 33, 3) := by decide +kernel
theorem dL_frameHolds_52 : decode cL_frameHolds 52 = .ok (.aload_n 0, 1) := by decide +kernel
theorem dL_frameHolds_53 : decode cL_frameHolds 53 = .ok (.iconst 2, 1) := by decide +kernel
theorem dL_frameHolds_54 : decode cL_frameHolds 54 = .ok (.invokevirtual 29, 3) := by decide +kernel
theorem dL_frameHolds_57 : decode cL_frameHolds 57 = .ok (.if_icmp .gt 7, 3) := by decide +kernel
theorem dL_frameHolds_60 : decode cL_frameHolds 60 = .ok (.iconst 1, 1) := by decide +kernel
theorem dL_frameHolds_61 : decode cL_frameHolds 61 = .ok (.goto 4, 3) := by decide +kernel
theorem dL_frameHolds_64 : decode cL_frameHolds 64 = .ok (.iconst 0, 1) := by decide +kernel
theorem dL_frameHolds_65 : decode cL_frameHolds 65 = .ok (.istore 7, 2) := by decide +kernel
theorem dL_frameHolds_67 : decode cL_frameHolds 67 = .ok (.iconst 0, 1) := by decide +kernel
theorem dL_frameHolds_68 : decode cL_frameHolds 68 = .ok (.istore 8, 2) := by decide +kernel
theorem dL_frameHolds_70 : decode cL_frameHolds 70 = .ok (.iload 8, 2) := by decide +kernel
theorem dL_frameHolds_72 : decode cL_frameHolds 72 = .ok (.iload_n 2, 1) := by decide +kernel
theorem dL_frameHolds_73 : decode cL_frameHolds 73 = .ok (.if_icmp .ge 195, 3) := by decide +kernel
theorem dL_frameHolds_76 : decode cL_frameHolds 76 = .ok (.iload 7, 2) := by decide +kernel
theorem dL_frameHolds_78 : decode cL_frameHolds 78 = .ok (.ifCond .eq 190, 3) := by decide +kernel
theorem dL_frameHolds_81 : decode cL_frameHolds 81 = .ok (.aload_n 0, 1) := by decide +kernel
theorem dL_frameHolds_82 : decode cL_frameHolds 82 = .ok (.iload_n 1, 1) := by decide +kernel
theorem dL_frameHolds_83 : decode cL_frameHolds 83 = .ok (.iload 8, 2) := by decide +kernel
theorem dL_frameHolds_85 : decode cL_frameHolds 85 = .ok (.invokevirtual 36, 3) := by decide +kernel
theorem dL_frameHolds_88 : decode cL_frameHolds 88 = .ok (.istore 9, 2) := by decide +kernel
theorem dL_frameHolds_90 : decode cL_frameHolds 90 = .ok (.iload 5, 2) := by decide +kernel
theorem dL_frameHolds_92 : decode cL_frameHolds 92 = .ok (.iload 8, 2) := by decide +kernel
theorem dL_frameHolds_94 : decode cL_frameHolds 94 = .ok (.invokestatic 39, 3) := by decide +kernel
theorem dL_frameHolds_97 : decode cL_frameHolds 97 = .ok (.ifCond .eq 48, 3) := by decide +kernel
theorem dL_frameHolds_100 : decode cL_frameHolds 100 = .ok (.iload 9, 2) := by decide +kernel
theorem dL_frameHolds_102 : decode cL_frameHolds 102 = .ok (.ldc 43, 2) := by decide +kernel
theorem dL_frameHolds_104 : decode cL_frameHolds 104 = .ok (.if_icmp .ne 35, 3) := by decide +kernel
theorem dL_frameHolds_107 : decode cL_frameHolds 107 = .ok (.aload_n 0, 1) := by decide +kernel
theorem dL_frameHolds_108 : decode cL_frameHolds 108 = .ok (.iload_n 1, 1) := by decide +kernel
theorem dL_frameHolds_109 : decode cL_frameHolds 109 = .ok (.iload 8, 2) := by decide +kernel
theorem dL_frameHolds_111 : decode cL_frameHolds 111 = .ok (.iconst 0, 1) := by decide +kernel
theorem dL_frameHolds_112 : decode cL_frameHolds 112 = .ok (.invokevirtual 44, 3) := by decide +kernel
theorem dL_frameHolds_115 : decode cL_frameHolds 115 = .ok (.ldc 43, 2) := by decide +kernel
theorem dL_frameHolds_117 : decode cL_frameHolds 117 = .ok (.if_icmp .ne 22, 3) := by decide +kernel
theorem dL_frameHolds_120 : decode cL_frameHolds 120 = .ok (.aload_n 0, 1) := by decide +kernel
theorem dL_frameHolds_121 : decode cL_frameHolds 121 = .ok (.iload_n 1, 1) := by decide +kernel
theorem dL_frameHolds_122 : decode cL_frameHolds 122 = .ok (.iload 8, 2) := by decide +kernel
theorem dL_frameHolds_124 : decode cL_frameHolds 124 = .ok (.iload_n 3, 1) := by decide +kernel
theorem dL_frameHolds_125 : decode cL_frameHolds 125 = .ok (.iconst 1, 1) := by decide +kernel
theorem dL_frameHolds_126 : decode cL_frameHolds 126 = .ok (.isub, 1) := by decide +kernel
theorem dL_frameHolds_127 : decode cL_frameHolds 127 = .ok (.invokevirtual 44, 3) := by decide +kernel
theorem dL_frameHolds_130 : decode cL_frameHolds 130 = .ok (.ldc 43, 2) := by decide +kernel
theorem dL_frameHolds_132 : decode cL_frameHolds 132 = .ok (.if_icmp .ne 7, 3) := by decide +kernel
theorem dL_frameHolds_135 : decode cL_frameHolds 135 = .ok (.iconst 1, 1) := by decide +kernel
theorem dL_frameHolds_136 : decode cL_frameHolds 136 = .ok (.goto 4, 3) := by decide +kernel
theorem dL_frameHolds_139 : decode cL_frameHolds 139 = .ok (.iconst 0, 1) := by decide +kernel
theorem dL_frameHolds_140 : decode cL_frameHolds 140 = .ok (.istore 7, 2) := by decide +kernel
theorem dL_frameHolds_142 : decode cL_frameHolds 142 = .ok (.goto 120, 3) := by decide +kernel
theorem dL_frameHolds_145 : decode cL_frameHolds 145 = .ok (.iload 9, 2) := by decide +kernel
theorem dL_frameHolds_147 : decode cL_frameHolds 147 = .ok (.ifCond .lt 22, 3) := by decide +kernel
theorem dL_frameHolds_150 : decode cL_frameHolds 150 = .ok (.iload 9, 2) := by decide +kernel
theorem dL_frameHolds_152 : decode cL_frameHolds 152 = .ok (.iconst 1, 1) := by decide +kernel
theorem dL_frameHolds_153 : decode cL_frameHolds 153 = .ok (.iload_n 3, 1) := by decide +kernel
theorem dL_frameHolds_154 : decode cL_frameHolds 154 = .ok (.ishl, 1) := by decide +kernel
theorem dL_frameHolds_155 : decode cL_frameHolds 155 = .ok (.if_icmp .ge 14, 3) := by decide +kernel
theorem dL_frameHolds_158 : decode cL_frameHolds 158 = .ok (.iload 9, 2) := by decide +kernel
theorem dL_frameHolds_160 : decode cL_frameHolds 160 = .ok (.iconst 1, 1) := by decide +kernel
theorem dL_frameHolds_161 : decode cL_frameHolds 161 = .ok (.iand, 1) := by decide +kernel
theorem dL_frameHolds_162 : decode cL_frameHolds 162 = .ok (.ifCond .ne 7, 3) := by decide +kernel
theorem dL_frameHolds_165 : decode cL_frameHolds 165 = .ok (.iconst 1, 1) := by decide +kernel
theorem dL_frameHolds_166 : decode cL_frameHolds 166 = .ok (.goto 4, 3) := by decide +kernel
theorem dL_frameHolds_169 : decode cL_frameHolds 169 = .ok (.iconst 0, 1) := by decide +kernel
theorem dL_frameHolds_170 : decode cL_frameHolds 170 = .ok (.istore 7, 2) := by decide +kernel
theorem dL_frameHolds_172 : decode cL_frameHolds 172 = .ok (.iconst 1, 1) := by decide +kernel
theorem dL_frameHolds_173 : decode cL_frameHolds 173 = .ok (.istore 10, 2) := by decide +kernel
theorem dL_frameHolds_175 : decode cL_frameHolds 175 = .ok (.iload 10, 2) := by decide +kernel
theorem dL_frameHolds_177 : decode cL_frameHolds 177 = .ok (.iload_n 3, 1) := by decide +kernel
theorem dL_frameHolds_178 : decode cL_frameHolds 178 = .ok (.if_icmp .ge 74, 3) := by decide +kernel
theorem dL_frameHolds_181 : decode cL_frameHolds 181 = .ok (.iload 7, 2) := by decide +kernel
theorem dL_frameHolds_183 : decode cL_frameHolds 183 = .ok (.ifCond .eq 69, 3) := by decide +kernel
theorem dL_frameHolds_186 : decode cL_frameHolds 186 = .ok (.aload_n 0, 1) := by decide +kernel
theorem dL_frameHolds_187 : decode cL_frameHolds 187 = .ok (.iload_n 1, 1) := by decide +kernel
theorem dL_frameHolds_188 : decode cL_frameHolds 188 = .ok (.iload 8, 2) := by decide +kernel
theorem dL_frameHolds_190 : decode cL_frameHolds 190 = .ok (.iload 10, 2) := by decide +kernel
theorem dL_frameHolds_192 : decode cL_frameHolds 192 = .ok (.invokevirtual 44, 3) := by decide +kernel
theorem dL_frameHolds_195 : decode cL_frameHolds 195 = .ok (.aload_n 0, 1) := by decide +kernel
theorem dL_frameHolds_196 : decode cL_frameHolds 196 = .ok (.iload_n 1, 1) := by decide +kernel
theorem dL_frameHolds_197 : decode cL_frameHolds 197 = .ok (.iload 8, 2) := by decide +kernel
theorem dL_frameHolds_199 : decode cL_frameHolds 199 = .ok (.iload 10, 2) := by decide +kernel
theorem dL_frameHolds_201 : decode cL_frameHolds 201 = .ok (.iconst 1, 1) := by decide +kernel
theorem dL_frameHolds_202 : decode cL_frameHolds 202 = .ok (.isub, 1) := by decide +kernel
theorem dL_frameHolds_203 : decode cL_frameHolds 203 = .ok (.invokevirtual 44, 3) := by decide +kernel
theorem dL_frameHolds_206 : decode cL_frameHolds 206 = .ok (.isub, 1) := by decide +kernel
theorem dL_frameHolds_207 : decode cL_frameHolds 207 = .ok (.istore 11, 2) := by decide +kernel
theorem dL_frameHolds_209 : decode cL_frameHolds 209 = .ok (.iload 9, 2) := by decide +kernel
theorem dL_frameHolds_211 : decode cL_frameHolds 211 = .ok (.iload 10, 2) := by decide +kernel
theorem dL_frameHolds_213 : decode cL_frameHolds 213 = .ok (.invokestatic 39, 3) := by decide +kernel
theorem dL_frameHolds_216 : decode cL_frameHolds 216 = .ok (.iload 11, 2) := by decide +kernel
theorem dL_frameHolds_218 : decode cL_frameHolds 218 = .ok (.iload 4, 2) := by decide +kernel
theorem dL_frameHolds_220 : decode cL_frameHolds 220 = .ok (.if_icmp .ge 11, 3) := by decide +kernel
theorem dL_frameHolds_223 : decode cL_frameHolds 223 = .ok (.iload 11, 2) := by decide +kernel
theorem dL_frameHolds_225 : decode cL_frameHolds 225 = .ok (.ineg, 1) := by decide +kernel
theorem dL_frameHolds_226 : decode cL_frameHolds 226 = .ok (.iload 4, 2) := by decide +kernel
theorem dL_frameHolds_228 : decode cL_frameHolds 228 = .ok (.if_icmp .lt 7, 3) := by decide +kernel
theorem dL_frameHolds_231 : decode cL_frameHolds 231 = .ok (.iconst 1, 1) := by decide +kernel
theorem dL_frameHolds_232 : decode cL_frameHolds 232 = .ok (.goto 4, 3) := by decide +kernel
theorem dL_frameHolds_235 : decode cL_frameHolds 235 = .ok (.iconst 0, 1) := by decide +kernel
theorem dL_frameHolds_236 : decode cL_frameHolds 236 = .ok (.if_icmp .ne 7, 3) := by decide +kernel
theorem dL_frameHolds_239 : decode cL_frameHolds 239 = .ok (.iconst 1, 1) := by decide +kernel
theorem dL_frameHolds_240 : decode cL_frameHolds 240 = .ok (.goto 4, 3) := by decide +kernel
theorem dL_frameHolds_243 : decode cL_frameHolds 243 = .ok (.iconst 0, 1) := by decide +kernel
theorem dL_frameHolds_244 : decode cL_frameHolds 244 = .ok (.istore 7, 2) := by decide +kernel
theorem dL_frameHolds_246 : decode cL_frameHolds 246 = .ok (.iinc 10 1, 3) := by decide +kernel
theorem dL_frameHolds_249 : decode cL_frameHolds 249 = .ok (.goto (-74), 3) := by decide +kernel
theorem dL_frameHolds_252 : decode cL_frameHolds 252 = .ok (.iload 6, 2) := by decide +kernel
theorem dL_frameHolds_254 : decode cL_frameHolds 254 = .ok (.iload 9, 2) := by decide +kernel
theorem dL_frameHolds_256 : decode cL_frameHolds 256 = .ok (.invokestatic 48, 3) := by decide +kernel
theorem dL_frameHolds_259 : decode cL_frameHolds 259 = .ok (.iadd, 1) := by decide +kernel
theorem dL_frameHolds_260 : decode cL_frameHolds 260 = .ok (.istore 6, 2) := by decide +kernel
theorem dL_frameHolds_262 : decode cL_frameHolds 262 = .ok (.iinc 8 1, 3) := by decide +kernel
theorem dL_frameHolds_265 : decode cL_frameHolds 265 = .ok (.goto (-195), 3) := by decide +kernel
theorem dL_frameHolds_268 : decode cL_frameHolds 268 = .ok (.iload 7, 2) := by decide +kernel
theorem dL_frameHolds_270 : decode cL_frameHolds 270 = .ok (.ifCond .eq 29, 3) := by decide +kernel
theorem dL_frameHolds_273 : decode cL_frameHolds 273 = .ok (.aload_n 0, 1) := by decide +kernel
theorem dL_frameHolds_274 : decode cL_frameHolds 274 = .ok (.iload_n 1, 1) := by decide +kernel
theorem dL_frameHolds_275 : decode cL_frameHolds 275 = .ok (.iconst 2, 1) := by decide +kernel
theorem dL_frameHolds_276 : decode cL_frameHolds 276 = .ok (.invokevirtual 33, 3) := by decide +kernel
theorem dL_frameHolds_279 : decode cL_frameHolds 279 = .ok (.iload 6, 2) := by decide +kernel
theorem dL_frameHolds_281 : decode cL_frameHolds 281 = .ok (.if_icmp .ne 18, 3) := by decide +kernel
theorem dL_frameHolds_284 : decode cL_frameHolds 284 = .ok (.aload_n 0, 1) := by decide +kernel
theorem dL_frameHolds_285 : decode cL_frameHolds 285 = .ok (.iload_n 1, 1) := by decide +kernel
theorem dL_frameHolds_286 : decode cL_frameHolds 286 = .ok (.invokevirtual 51, 3) := by decide +kernel
theorem dL_frameHolds_289 : decode cL_frameHolds 289 = .ok (.iload 5, 2) := by decide +kernel
theorem dL_frameHolds_291 : decode cL_frameHolds 291 = .ok (.iand, 1) := by decide +kernel
theorem dL_frameHolds_292 : decode cL_frameHolds 292 = .ok (.ifCond .ne 7, 3) := by decide +kernel
theorem dL_frameHolds_295 : decode cL_frameHolds 295 = .ok (.iconst 1, 1) := by decide +kernel
theorem dL_frameHolds_296 : decode cL_frameHolds 296 = .ok (.goto 4, 3) := by decide +kernel
theorem dL_frameHolds_299 : decode cL_frameHolds 299 = .ok (.iconst 0, 1) := by decide +kernel
theorem dL_frameHolds_300 : decode cL_frameHolds 300 = .ok (.ireturn, 1) := by decide +kernel
theorem dL_shoots_0 : decode cL_shoots 0 = .ok (.aload_n 0, 1) := by decide +kernel
theorem dL_shoots_1 : decode cL_shoots 1 = .ok (.iconst 2, 1) := by decide +kernel
theorem dL_shoots_2 : decode cL_shoots 2 = .ok (.invokevirtual 29, 3) := by decide +kernel
theorem dL_shoots_5 : decode cL_shoots 5 = .ok (.istore_n 1, 1) := by decide +kernel
theorem dL_shoots_6 : decode cL_shoots 6 = .ok (.aload_n 0, 1) := by decide +kernel
theorem dL_shoots_7 : decode cL_shoots 7 = .ok (.iconst 1, 1) := by decide +kernel
theorem dL_shoots_8 : decode cL_shoots 8 = .ok (.invokevirtual 29, 3) := by decide +kernel
theorem dL_shoots_11 : decode cL_shoots 11 = .ok (.istore_n 2, 1) := by decide +kernel
theorem dL_shoots_12 : decode cL_shoots 12 = .ok (.aload_n 0, 1) := by decide +kernel
theorem dL_shoots_13 : decode cL_shoots 13 = .ok (.iconst 4, 1) := by decide +kernel
theorem dL_shoots_14 : decode cL_shoots 14 = .ok (.invokevirtual 29, 3) := by decide +kernel
theorem dL_shoots_17 : decode cL_shoots 17 = .ok (.istore_n 3, 1) := by decide +kernel
theorem dL_shoots_18 : decode cL_shoots 18 = .ok (.aload_n 0, 1) := by decide +kernel
theorem dL_shoots_19 : decode cL_shoots 19 = .ok (.bipush 10, 2) := by decide +kernel
theorem dL_shoots_21 : decode cL_shoots 21 = .ok (.invokevirtual 29, 3) := by decide +kernel
theorem dL_shoots_24 : decode cL_shoots 24 = .ok (.istore 4, 2) := by decide +kernel
theorem dL_shoots_26 : decode cL_shoots 26 = .ok (.aload_n 0, 1) := by decide +kernel
theorem dL_shoots_27 : decode cL_shoots 27 = .ok (.bipush 11, 2) := by decide +kernel
theorem dL_shoots_29 : decode cL_shoots 29 = .ok (.invokevirtual 29, 3) := by decide +kernel
theorem dL_shoots_32 : decode cL_shoots 32 = .ok (.istore 5, 2) := by decide +kernel
theorem dL_shoots_34 : decode cL_shoots 34 = .ok (.aload_n 0, 1) := by decide +kernel
theorem dL_shoots_35 : decode cL_shoots 35 = .ok (.invokestatic 54, 3) := by decide +kernel
theorem dL_shoots_38 : decode cL_shoots 38 = .ok (.iconst 1, 1) := by decide +kernel
theorem dL_shoots_39 : decode cL_shoots 39 = .ok (.iload 4, 2) := by decide +kernel
theorem dL_shoots_41 : decode cL_shoots 41 = .ok (.ishl, 1) := by decide +kernel
theorem dL_shoots_42 : decode cL_shoots 42 = .ok (.iconst 1, 1) := by decide +kernel
theorem dL_shoots_43 : decode cL_shoots 43 = .ok (.isub, 1) := by decide +kernel
theorem dL_shoots_44 : decode cL_shoots 44 = .ok (.iand, 1) := by decide +kernel
theorem dL_shoots_45 : decode cL_shoots 45 = .ok (.istore 6, 2) := by decide +kernel
theorem dL_shoots_47 : decode cL_shoots 47 = .ok (.aload_n 0, 1) := by decide +kernel
theorem dL_shoots_48 : decode cL_shoots 48 = .ok (.invokevirtual 58, 3) := by decide +kernel
theorem dL_shoots_51 : decode cL_shoots 51 = .ok (.iconst 1, 1) := by decide +kernel
theorem dL_shoots_52 : decode cL_shoots 52 = .ok (.isub, 1) := by decide +kernel
theorem dL_shoots_53 : decode cL_shoots 53 = .ok (.istore 7, 2) := by decide +kernel
theorem dL_shoots_55 : decode cL_shoots 55 = .ok (.iload 7, 2) := by decide +kernel
theorem dL_shoots_57 : decode cL_shoots 57 = .ok (.iload_n 2, 1) := by decide +kernel
theorem dL_shoots_58 : decode cL_shoots 58 = .ok (.iconst 5, 1) := by decide +kernel
theorem dL_shoots_59 : decode cL_shoots 59 = .ok (.if_icmp .ge 7, 3) := by decide +kernel
theorem dL_shoots_62 : decode cL_shoots 62 = .ok (.iload_n 2, 1) := by decide +kernel
theorem dL_shoots_63 : decode cL_shoots 63 = .ok (.goto 4, 3) := by decide +kernel
theorem dL_shoots_66 : decode cL_shoots 66 = .ok (.iconst 4, 1) := by decide +kernel
theorem dL_shoots_67 : decode cL_shoots 67 = .ok (.if_icmp .ne 53, 3) := by decide +kernel
theorem dL_shoots_70 : decode cL_shoots 70 = .ok (.aload_n 0, 1) := by decide +kernel
theorem dL_shoots_71 : decode cL_shoots 71 = .ok (.iconst 1, 1) := by decide +kernel
theorem dL_shoots_72 : decode cL_shoots 72 = .ok (.invokevirtual 29, 3) := by decide +kernel
theorem dL_shoots_75 : decode cL_shoots 75 = .ok (.iload 7, 2) := by decide +kernel
theorem dL_shoots_77 : decode cL_shoots 77 = .ok (.iconst 1, 1) := by decide +kernel
theorem dL_shoots_78 : decode cL_shoots 78 = .ok (.iadd, 1) := by decide +kernel
theorem dL_shoots_79 : decode cL_shoots 79 = .ok (.if_icmp .ne 41, 3) := by decide +kernel
theorem dL_shoots_82 : decode cL_shoots 82 = .ok (.aload_n 0, 1) := by decide +kernel
theorem dL_shoots_83 : decode cL_shoots 83 = .ok (.iconst 4, 1) := by decide +kernel
theorem dL_shoots_84 : decode cL_shoots 84 = .ok (.invokevirtual 29, 3) := by decide +kernel
theorem dL_shoots_87 : decode cL_shoots 87 = .ok (.iload_n 3, 1) := by decide +kernel
theorem dL_shoots_88 : decode cL_shoots 88 = .ok (.iconst 1, 1) := by decide +kernel
theorem dL_shoots_89 : decode cL_shoots 89 = .ok (.iadd, 1) := by decide +kernel
theorem dL_shoots_90 : decode cL_shoots 90 = .ok (.if_icmp .ne 30, 3) := by decide +kernel
theorem dL_shoots_93 : decode cL_shoots 93 = .ok (.aload_n 0, 1) := by decide +kernel
theorem dL_shoots_94 : decode cL_shoots 94 = .ok (.iload 7, 2) := by decide +kernel
theorem dL_shoots_96 : decode cL_shoots 96 = .ok (.iconst 0, 1) := by decide +kernel
theorem dL_shoots_97 : decode cL_shoots 97 = .ok (.invokevirtual 33, 3) := by decide +kernel
theorem dL_shoots_100 : decode cL_shoots 100 = .ok (.iload_n 1, 1) := by decide +kernel
theorem dL_shoots_101 : decode cL_shoots 101 = .ok (.if_icmp .ne 19, 3) := by decide +kernel
theorem dL_shoots_104 : decode cL_shoots 104 = .ok (.aload_n 0, 1) := by decide +kernel
theorem dL_shoots_105 : decode cL_shoots 105 = .ok (.iload 7, 2) := by decide +kernel
theorem dL_shoots_107 : decode cL_shoots 107 = .ok (.iconst 1, 1) := by decide +kernel
theorem dL_shoots_108 : decode cL_shoots 108 = .ok (.invokevirtual 33, 3) := by decide +kernel
theorem dL_shoots_111 : decode cL_shoots 111 = .ok (.iload 6, 2) := by decide +kernel
theorem dL_shoots_113 : decode cL_shoots 113 = .ok (.if_icmp .ne 7, 3) := by decide +kernel
theorem dL_shoots_116 : decode cL_shoots 116 = .ok (.iconst 1, 1) := by decide +kernel
theorem dL_shoots_117 : decode cL_shoots 117 = .ok (.goto 4, 3) := by decide +kernel
theorem dL_shoots_120 : decode cL_shoots 120 = .ok (.iconst 0, 1) := by decide +kernel
theorem dL_shoots_121 : decode cL_shoots 121 = .ok (.istore 8, 2) := by decide +kernel
theorem dL_shoots_123 : decode cL_shoots 123 = .ok (.iconst 0, 1) := by decide +kernel
theorem dL_shoots_124 : decode cL_shoots 124 = .ok (.istore 9, 2) := by decide +kernel
theorem dL_shoots_126 : decode cL_shoots 126 = .ok (.iload 9, 2) := by decide +kernel
theorem dL_shoots_128 : decode cL_shoots 128 = .ok (.iload 4, 2) := by decide +kernel
theorem dL_shoots_130 : decode cL_shoots 130 = .ok (.if_icmp .ge 84, 3) := by decide +kernel
theorem dL_shoots_133 : decode cL_shoots 133 = .ok (.iload 8, 2) := by decide +kernel
theorem dL_shoots_135 : decode cL_shoots 135 = .ok (.ifCond .eq 79, 3) := by decide +kernel
theorem dL_shoots_138 : decode cL_shoots 138 = .ok (.iconst 0, 1) := by decide +kernel
theorem dL_shoots_139 : decode cL_shoots 139 = .ok (.istore 10, 2) := by decide +kernel
theorem dL_shoots_141 : decode cL_shoots 141 = .ok (.iload 10, 2) := by decide +kernel
theorem dL_shoots_143 : decode cL_shoots 143 = .ok (.iload 5, 2) := by decide +kernel
theorem dL_shoots_145 : decode cL_shoots 145 = .ok (.if_icmp .ge 63, 3) := by decide +kernel
theorem dL_shoots_148 : decode cL_shoots 148 = .ok (.iload 8, 2) := by decide +kernel
theorem dL_shoots_150 : decode cL_shoots 150 = .ok (.ifCond .eq 58, 3) := by decide +kernel
theorem dL_shoots_153 : decode cL_shoots 153 = .ok (.iload 6, 2) := by decide +kernel
theorem dL_shoots_155 : decode cL_shoots 155 = .ok (.iload 9, 2) := by decide +kernel
theorem dL_shoots_157 : decode cL_shoots 157 = .ok (.invokestatic 39, 3) := by decide +kernel
theorem dL_shoots_160 : decode cL_shoots 160 = .ok (.ifCond .ne 48, 3) := by decide +kernel
theorem dL_shoots_163 : decode cL_shoots 163 = .ok (.aload_n 0, 1) := by decide +kernel
theorem dL_shoots_164 : decode cL_shoots 164 = .ok (.iload 7, 2) := by decide +kernel
theorem dL_shoots_166 : decode cL_shoots 166 = .ok (.iload 9, 2) := by decide +kernel
theorem dL_shoots_168 : decode cL_shoots 168 = .ok (.iload 10, 2) := by decide +kernel
theorem dL_shoots_170 : decode cL_shoots 170 = .ok (.invokevirtual 44, 3) := by decide +kernel
theorem dL_shoots_173 : decode cL_shoots 173 = .ok (.aload_n 0, 1) := by decide +kernel
theorem dL_shoots_174 : decode cL_shoots 174 = .ok (.iload 9, 2) := by decide +kernel
theorem dL_shoots_176 : decode cL_shoots 176 = .ok (.iload 10, 2) := by decide +kernel
theorem dL_shoots_178 : decode cL_shoots 178 = .ok (.iload_n 1, 1) := by decide +kernel
theorem dL_shoots_179 : decode cL_shoots 179 = .ok (.iload 9, 2) := by decide +kernel
theorem dL_shoots_181 : decode cL_shoots 181 = .ok (.aload_n 0, 1) := by decide +kernel
theorem dL_shoots_182 : decode cL_shoots 182 = .ok (.bipush 12, 2) := by decide +kernel
theorem dL_shoots_184 : decode cL_shoots 184 = .ok (.invokevirtual 29, 3) := by decide +kernel
theorem dL_shoots_187 : decode cL_shoots 187 = .ok (.imul, 1) := by decide +kernel
theorem dL_shoots_188 : decode cL_shoots 188 = .ok (.iadd, 1) := by decide +kernel
theorem dL_shoots_189 : decode cL_shoots 189 = .ok (.invokevirtual 62, 3) := by decide +kernel
theorem dL_shoots_192 : decode cL_shoots 192 = .ok (.if_icmp .ne 7, 3) := by decide +kernel
theorem dL_shoots_195 : decode cL_shoots 195 = .ok (.iconst 1, 1) := by decide +kernel
theorem dL_shoots_196 : decode cL_shoots 196 = .ok (.goto 4, 3) := by decide +kernel
theorem dL_shoots_199 : decode cL_shoots 199 = .ok (.iconst 0, 1) := by decide +kernel
theorem dL_shoots_200 : decode cL_shoots 200 = .ok (.istore 8, 2) := by decide +kernel
theorem dL_shoots_202 : decode cL_shoots 202 = .ok (.iinc 10 1, 3) := by decide +kernel
theorem dL_shoots_205 : decode cL_shoots 205 = .ok (.goto (-64), 3) := by decide +kernel
theorem dL_shoots_208 : decode cL_shoots 208 = .ok (.iinc 9 1, 3) := by decide +kernel
theorem dL_shoots_211 : decode cL_shoots 211 = .ok (.goto (-85), 3) := by decide +kernel
theorem dL_shoots_214 : decode cL_shoots 214 = .ok (.iload 8, 2) := by decide +kernel
theorem dL_shoots_216 : decode cL_shoots 216 = .ok (.ifCond .eq 36, 3) := by decide +kernel
theorem dL_shoots_219 : decode cL_shoots 219 = .ok (.aload_n 0, 1) := by decide +kernel
theorem dL_shoots_220 : decode cL_shoots 220 = .ok (.iload 7, 2) := by decide +kernel
theorem dL_shoots_222 : decode cL_shoots 222 = .ok (.invokevirtual 51, 3) := by decide +kernel
theorem dL_shoots_225 : decode cL_shoots 225 = .ok (.iconst 1, 1) := by decide +kernel
theorem dL_shoots_226 : decode cL_shoots 226 = .ok (.iload 4, 2) := by decide +kernel
theorem dL_shoots_228 : decode cL_shoots 228 = .ok (.ishl, 1) := by decide +kernel
theorem dL_shoots_229 : decode cL_shoots 229 = .ok (.iconst 1, 1) := by decide +kernel
theorem dL_shoots_230 : decode cL_shoots 230 = .ok (.isub, 1) := by decide +kernel
theorem dL_shoots_231 : decode cL_shoots 231 = .ok (.iload 6, 2) := by decide +kernel
theorem dL_shoots_233 : decode cL_shoots 233 = .ok (.iconst (-1), 1) := by decide +kernel
theorem dL_shoots_234 : decode cL_shoots 234 = .ok (.ixor, 1) := by decide +kernel
theorem dL_shoots_235 : decode cL_shoots 235 = .ok (.iand, 1) := by decide +kernel
theorem dL_shoots_236 : decode cL_shoots 236 = .ok (.if_icmp .ne 16, 3) := by decide +kernel
theorem dL_shoots_239 : decode cL_shoots 239 = .ok (.aload_n 0, 1) := by decide +kernel
theorem dL_shoots_240 : decode cL_shoots 240 = .ok (.iload 7, 2) := by decide +kernel
theorem dL_shoots_242 : decode cL_shoots 242 = .ok (.invokestatic 65, 3) := by decide +kernel
theorem dL_shoots_245 : decode cL_shoots 245 = .ok (.ifCond .eq 7, 3) := by decide +kernel
theorem dL_shoots_248 : decode cL_shoots 248 = .ok (.iconst 1, 1) := by decide +kernel
theorem dL_shoots_249 : decode cL_shoots 249 = .ok (.goto 4, 3) := by decide +kernel
theorem dL_shoots_252 : decode cL_shoots 252 = .ok (.iconst 0, 1) := by decide +kernel
theorem dL_shoots_253 : decode cL_shoots 253 = .ok (.ireturn, 1) := by decide +kernel
theorem dL_folded_0 : decode cL_folded 0 = .ok (.ldc2_w 69, 3) := by decide +kernel
theorem dL_folded_3 : decode cL_folded 3 = .ok (.lstore_n 2, 1) := by decide +kernel
theorem dL_folded_4 : decode cL_folded 4 = .ok (.iconst 0, 1) := by decide +kernel
theorem dL_folded_5 : decode cL_folded 5 = .ok (.istore 4, 2) := by decide +kernel
theorem dL_folded_7 : decode cL_folded 7 = .ok (.iload 4, 2) := by decide +kernel
theorem dL_folded_9 : decode cL_folded 9 = .ok (.aload_n 0, 1) := by decide +kernel
theorem dL_folded_10 : decode cL_folded 10 = .ok (.iconst 1, 1) := by decide +kernel
theorem dL_folded_11 : decode cL_folded 11 = .ok (.invokevirtual 29, 3) := by decide +kernel
theorem dL_folded_14 : decode cL_folded 14 = .ok (.if_icmp .ge 79, 3) := by decide +kernel
theorem dL_folded_17 : decode cL_folded 17 = .ok (.iload 4, 2) := by decide +kernel
theorem dL_folded_19 : decode cL_folded 19 = .ok (.iload_n 1, 1) := by decide +kernel
theorem dL_folded_20 : decode cL_folded 20 = .ok (.if_icmp .ne 6, 3) := by decide +kernel
theorem dL_folded_23 : decode cL_folded 23 = .ok (.goto 64, 3) := by decide +kernel
theorem dL_folded_26 : decode cL_folded 26 = .ok (.ldc2_w 71, 3) := by decide +kernel
theorem dL_folded_29 : decode cL_folded 29 = .ok (.lload_n 2, 1) := by decide +kernel
theorem dL_folded_30 : decode cL_folded 30 = .ok (.lmul, 1) := by decide +kernel
theorem dL_folded_31 : decode cL_folded 31 = .ok (.aload_n 0, 1) := by decide +kernel
theorem dL_folded_32 : decode cL_folded 32 = .ok (.iload 4, 2) := by decide +kernel
theorem dL_folded_34 : decode cL_folded 34 = .ok (.iconst 0, 1) := by decide +kernel
theorem dL_folded_35 : decode cL_folded 35 = .ok (.invokevirtual 33, 3) := by decide +kernel
theorem dL_folded_38 : decode cL_folded 38 = .ok (.i2l, 1) := by decide +kernel
theorem dL_folded_39 : decode cL_folded 39 = .ok (.ladd, 1) := by decide +kernel
theorem dL_folded_40 : decode cL_folded 40 = .ok (.lstore_n 2, 1) := by decide +kernel
theorem dL_folded_41 : decode cL_folded 41 = .ok (.ldc2_w 71, 3) := by decide +kernel
theorem dL_folded_44 : decode cL_folded 44 = .ok (.lload_n 2, 1) := by decide +kernel
theorem dL_folded_45 : decode cL_folded 45 = .ok (.lmul, 1) := by decide +kernel
theorem dL_folded_46 : decode cL_folded 46 = .ok (.aload_n 0, 1) := by decide +kernel
theorem dL_folded_47 : decode cL_folded 47 = .ok (.iload 4, 2) := by decide +kernel
theorem dL_folded_49 : decode cL_folded 49 = .ok (.iconst 1, 1) := by decide +kernel
theorem dL_folded_50 : decode cL_folded 50 = .ok (.invokevirtual 33, 3) := by decide +kernel
theorem dL_folded_53 : decode cL_folded 53 = .ok (.i2l, 1) := by decide +kernel
theorem dL_folded_54 : decode cL_folded 54 = .ok (.ladd, 1) := by decide +kernel
theorem dL_folded_55 : decode cL_folded 55 = .ok (.lstore_n 2, 1) := by decide +kernel
theorem dL_folded_56 : decode cL_folded 56 = .ok (.ldc2_w 71, 3) := by decide +kernel
theorem dL_folded_59 : decode cL_folded 59 = .ok (.lload_n 2, 1) := by decide +kernel
theorem dL_folded_60 : decode cL_folded 60 = .ok (.lmul, 1) := by decide +kernel
theorem dL_folded_61 : decode cL_folded 61 = .ok (.aload_n 0, 1) := by decide +kernel
theorem dL_folded_62 : decode cL_folded 62 = .ok (.iload 4, 2) := by decide +kernel
theorem dL_folded_64 : decode cL_folded 64 = .ok (.iconst 2, 1) := by decide +kernel
theorem dL_folded_65 : decode cL_folded 65 = .ok (.invokevirtual 33, 3) := by decide +kernel
theorem dL_folded_68 : decode cL_folded 68 = .ok (.i2l, 1) := by decide +kernel
theorem dL_folded_69 : decode cL_folded 69 = .ok (.ladd, 1) := by decide +kernel
theorem dL_folded_70 : decode cL_folded 70 = .ok (.lstore_n 2, 1) := by decide +kernel
theorem dL_folded_71 : decode cL_folded 71 = .ok (.ldc2_w 71, 3) := by decide +kernel
theorem dL_folded_74 : decode cL_folded 74 = .ok (.lload_n 2, 1) := by decide +kernel
theorem dL_folded_75 : decode cL_folded 75 = .ok (.lmul, 1) := by decide +kernel
theorem dL_folded_76 : decode cL_folded 76 = .ok (.aload_n 0, 1) := by decide +kernel
theorem dL_folded_77 : decode cL_folded 77 = .ok (.iload 4, 2) := by decide +kernel
theorem dL_folded_79 : decode cL_folded 79 = .ok (.iconst 0, 1) := by decide +kernel
theorem dL_folded_80 : decode cL_folded 80 = .ok (.iconst 1, 1) := by decide +kernel
theorem dL_folded_81 : decode cL_folded 81 = .ok (.invokevirtual 44, 3) := by decide +kernel
theorem dL_folded_84 : decode cL_folded 84 = .ok (.i2l, 1) := by decide +kernel
theorem dL_folded_85 : decode cL_folded 85 = .ok (.ladd, 1) := by decide +kernel
theorem dL_folded_86 : decode cL_folded 86 = .ok (.lstore_n 2, 1) := by decide +kernel
theorem dL_folded_87 : decode cL_folded 87 = .ok (.iinc 4 1, 3) := by decide +kernel
theorem dL_folded_90 : decode cL_folded 90 = .ok (.goto (-83), 3) := by decide +kernel
theorem dL_folded_93 : decode cL_folded 93 = .ok (.lload_n 2, 1) := by decide +kernel
theorem dL_folded_94 : decode cL_folded 94 = .ok (.lreturn, 1) := by decide +kernel
theorem dL_forgets_0 : decode cL_forgets 0 = .ok (.aload_n 0, 1) := by decide +kernel
theorem dL_forgets_1 : decode cL_forgets 1 = .ok (.iconst 1, 1) := by decide +kernel
theorem dL_forgets_2 : decode cL_forgets 2 = .ok (.invokevirtual 29, 3) := by decide +kernel
theorem dL_forgets_5 : decode cL_forgets 5 = .ok (.istore_n 2, 1) := by decide +kernel
theorem dL_forgets_6 : decode cL_forgets 6 = .ok (.iload_n 1, 1) := by decide +kernel
theorem dL_forgets_7 : decode cL_forgets 7 = .ok (.iload_n 2, 1) := by decide +kernel
theorem dL_forgets_8 : decode cL_forgets 8 = .ok (.if_icmp .lt 28, 3) := by decide +kernel
theorem dL_forgets_11 : decode cL_forgets 11 = .ok (.aload_n 0, 1) := by decide +kernel
theorem dL_forgets_12 : decode cL_forgets 12 = .ok (.iload_n 1, 1) := by decide +kernel
theorem dL_forgets_13 : decode cL_forgets 13 = .ok (.invokevirtual 73, 3) := by decide +kernel
theorem dL_forgets_16 : decode cL_forgets 16 = .ok (.ldc 76, 2) := by decide +kernel
theorem dL_forgets_18 : decode cL_forgets 18 = .ok (.if_icmp .ne 16, 3) := by decide +kernel
theorem dL_forgets_21 : decode cL_forgets 21 = .ok (.aload_n 0, 1) := by decide +kernel
theorem dL_forgets_22 : decode cL_forgets 22 = .ok (.iconst 1, 1) := by decide +kernel
theorem dL_forgets_23 : decode cL_forgets 23 = .ok (.invokevirtual 29, 3) := by decide +kernel
theorem dL_forgets_26 : decode cL_forgets 26 = .ok (.iload_n 2, 1) := by decide +kernel
theorem dL_forgets_27 : decode cL_forgets 27 = .ok (.if_icmp .ne 7, 3) := by decide +kernel
theorem dL_forgets_30 : decode cL_forgets 30 = .ok (.iconst 1, 1) := by decide +kernel
theorem dL_forgets_31 : decode cL_forgets 31 = .ok (.goto 4, 3) := by decide +kernel
theorem dL_forgets_34 : decode cL_forgets 34 = .ok (.iconst 0, 1) := by decide +kernel
theorem dL_forgets_35 : decode cL_forgets 35 = .ok (.ireturn, 1) := by decide +kernel
theorem dL_forgets_36 : decode cL_forgets 36 = .ok (.aload_n 0, 1) := by decide +kernel
theorem dL_forgets_37 : decode cL_forgets 37 = .ok (.iload_n 1, 1) := by decide +kernel
theorem dL_forgets_38 : decode cL_forgets 38 = .ok (.invokestatic 77, 3) := by decide +kernel
theorem dL_forgets_41 : decode cL_forgets 41 = .ok (.lstore_n 3, 1) := by decide +kernel
theorem dL_forgets_42 : decode cL_forgets 42 = .ok (.aload_n 0, 1) := by decide +kernel
theorem dL_forgets_43 : decode cL_forgets 43 = .ok (.iconst (-1), 1) := by decide +kernel
theorem dL_forgets_44 : decode cL_forgets 44 = .ok (.invokestatic 77, 3) := by decide +kernel
theorem dL_forgets_47 : decode cL_forgets 47 = .ok (.lstore 5, 2) := by decide +kernel
theorem dL_forgets_49 : decode cL_forgets 49 = .ok (.aload_n 0, 1) := by decide +kernel
theorem dL_forgets_50 : decode cL_forgets 50 = .ok (.iload_n 1, 1) := by decide +kernel
theorem dL_forgets_51 : decode cL_forgets 51 = .ok (.invokevirtual 73, 3) := by decide +kernel
theorem dL_forgets_54 : decode cL_forgets 54 = .ok (.iload_n 2, 1) := by decide +kernel
theorem dL_forgets_55 : decode cL_forgets 55 = .ok (.iconst 1, 1) := by decide +kernel
theorem dL_forgets_56 : decode cL_forgets 56 = .ok (.isub, 1) := by decide +kernel
theorem dL_forgets_57 : decode cL_forgets 57 = .ok (.if_icmp .ne 17, 3) := by decide +kernel
theorem dL_forgets_60 : decode cL_forgets 60 = .ok (.aload_n 0, 1) := by decide +kernel
theorem dL_forgets_61 : decode cL_forgets 61 = .ok (.iconst (-1), 1) := by decide +kernel
theorem dL_forgets_62 : decode cL_forgets 62 = .ok (.invokestatic 77, 3) := by decide +kernel
theorem dL_forgets_65 : decode cL_forgets 65 = .ok (.lload_n 3, 1) := by decide +kernel
theorem dL_forgets_66 : decode cL_forgets 66 = .ok (.lcmp, 1) := by decide +kernel
theorem dL_forgets_67 : decode cL_forgets 67 = .ok (.ifCond .ne 7, 3) := by decide +kernel
theorem dL_forgets_70 : decode cL_forgets 70 = .ok (.iconst 1, 1) := by decide +kernel
theorem dL_forgets_71 : decode cL_forgets 71 = .ok (.goto 4, 3) := by decide +kernel
theorem dL_forgets_74 : decode cL_forgets 74 = .ok (.iconst 0, 1) := by decide +kernel
theorem dL_forgets_75 : decode cL_forgets 75 = .ok (.istore 7, 2) := by decide +kernel
theorem dL_forgets_77 : decode cL_forgets 77 = .ok (.iload 7, 2) := by decide +kernel
theorem dL_forgets_79 : decode cL_forgets 79 = .ok (.ifCond .eq 34, 3) := by decide +kernel
theorem dL_forgets_82 : decode cL_forgets 82 = .ok (.aload_n 0, 1) := by decide +kernel
theorem dL_forgets_83 : decode cL_forgets 83 = .ok (.invokevirtual 81, 3) := by decide +kernel
theorem dL_forgets_86 : decode cL_forgets 86 = .ok (.ifCond .lt 27, 3) := by decide +kernel
theorem dL_forgets_89 : decode cL_forgets 89 = .ok (.aload_n 0, 1) := by decide +kernel
theorem dL_forgets_90 : decode cL_forgets 90 = .ok (.iconst (-1), 1) := by decide +kernel
theorem dL_forgets_91 : decode cL_forgets 91 = .ok (.invokestatic 77, 3) := by decide +kernel
theorem dL_forgets_94 : decode cL_forgets 94 = .ok (.lload 5, 2) := by decide +kernel
theorem dL_forgets_96 : decode cL_forgets 96 = .ok (.lcmp, 1) := by decide +kernel
theorem dL_forgets_97 : decode cL_forgets 97 = .ok (.ifCond .ne 16, 3) := by decide +kernel
theorem dL_forgets_100 : decode cL_forgets 100 = .ok (.aload_n 0, 1) := by decide +kernel
theorem dL_forgets_101 : decode cL_forgets 101 = .ok (.iconst 1, 1) := by decide +kernel
theorem dL_forgets_102 : decode cL_forgets 102 = .ok (.invokevirtual 29, 3) := by decide +kernel
theorem dL_forgets_105 : decode cL_forgets 105 = .ok (.iload_n 2, 1) := by decide +kernel
theorem dL_forgets_106 : decode cL_forgets 106 = .ok (.if_icmp .ne 7, 3) := by decide +kernel
theorem dL_forgets_109 : decode cL_forgets 109 = .ok (.iconst 1, 1) := by decide +kernel
theorem dL_forgets_110 : decode cL_forgets 110 = .ok (.goto 4, 3) := by decide +kernel
theorem dL_forgets_113 : decode cL_forgets 113 = .ok (.iconst 0, 1) := by decide +kernel
theorem dL_forgets_114 : decode cL_forgets 114 = .ok (.ireturn, 1) := by decide +kernel
theorem dL_turns_0 : decode cL_turns 0 = .ok (.aload_n 0, 1) := by decide +kernel
theorem dL_turns_1 : decode cL_turns 1 = .ok (.iload_n 1, 1) := by decide +kernel
theorem dL_turns_2 : decode cL_turns 2 = .ok (.bipush 6, 2) := by decide +kernel
theorem dL_turns_4 : decode cL_turns 4 = .ok (.invokevirtual 84, 3) := by decide +kernel
theorem dL_turns_7 : decode cL_turns 7 = .ok (.istore_n 3, 1) := by decide +kernel
theorem dL_turns_8 : decode cL_turns 8 = .ok (.aload_n 0, 1) := by decide +kernel
theorem dL_turns_9 : decode cL_turns 9 = .ok (.iload_n 1, 1) := by decide +kernel
theorem dL_turns_10 : decode cL_turns 10 = .ok (.iconst 3, 1) := by decide +kernel
theorem dL_turns_11 : decode cL_turns 11 = .ok (.invokevirtual 84, 3) := by decide +kernel
theorem dL_turns_14 : decode cL_turns 14 = .ok (.istore 4, 2) := by decide +kernel
theorem dL_turns_16 : decode cL_turns 16 = .ok (.iload_n 3, 1) := by decide +kernel
theorem dL_turns_17 : decode cL_turns 17 = .ok (.aload_n 0, 1) := by decide +kernel
theorem dL_turns_18 : decode cL_turns 18 = .ok (.iload_n 1, 1) := by decide +kernel
theorem dL_turns_19 : decode cL_turns 19 = .ok (.iconst 2, 1) := by decide +kernel
theorem dL_turns_20 : decode cL_turns 20 = .ok (.invokevirtual 84, 3) := by decide +kernel
theorem dL_turns_23 : decode cL_turns 23 = .ok (.iload 4, 2) := by decide +kernel
theorem dL_turns_25 : decode cL_turns 25 = .ok (.aload_n 0, 1) := by decide +kernel
theorem dL_turns_26 : decode cL_turns 26 = .ok (.iconst 2, 1) := by decide +kernel
theorem dL_turns_27 : decode cL_turns 27 = .ok (.invokevirtual 29, 3) := by decide +kernel
theorem dL_turns_30 : decode cL_turns 30 = .ok (.imul, 1) := by decide +kernel
theorem dL_turns_31 : decode cL_turns 31 = .ok (.iadd, 1) := by decide +kernel
theorem dL_turns_32 : decode cL_turns 32 = .ok (.if_icmp .ne 18, 3) := by decide +kernel
theorem dL_turns_35 : decode cL_turns 35 = .ok (.aload_n 0, 1) := by decide +kernel
theorem dL_turns_36 : decode cL_turns 36 = .ok (.iload_n 1, 1) := by decide +kernel
theorem dL_turns_37 : decode cL_turns 37 = .ok (.iload_n 2, 1) := by decide +kernel
theorem dL_turns_38 : decode cL_turns 38 = .ok (.invokevirtual 87, 3) := by decide +kernel
theorem dL_turns_41 : decode cL_turns 41 = .ok (.iload 4, 2) := by decide +kernel
theorem dL_turns_43 : decode cL_turns 43 = .ok (.if_icmp .ne 7, 3) := by decide +kernel
theorem dL_turns_46 : decode cL_turns 46 = .ok (.iconst 1, 1) := by decide +kernel
theorem dL_turns_47 : decode cL_turns 47 = .ok (.goto 4, 3) := by decide +kernel
theorem dL_turns_50 : decode cL_turns 50 = .ok (.iconst 0, 1) := by decide +kernel
theorem dL_turns_51 : decode cL_turns 51 = .ok (.istore 5, 2) := by decide +kernel
theorem dL_turns_53 : decode cL_turns 53 = .ok (.iload 5, 2) := by decide +kernel
theorem dL_turns_55 : decode cL_turns 55 = .ok (.ifCond .eq 46, 3) := by decide +kernel
theorem dL_turns_58 : decode cL_turns 58 = .ok (.aload_n 0, 1) := by decide +kernel
theorem dL_turns_59 : decode cL_turns 59 = .ok (.iload_n 1, 1) := by decide +kernel
theorem dL_turns_60 : decode cL_turns 60 = .ok (.bipush 6, 2) := by decide +kernel
theorem dL_turns_62 : decode cL_turns 62 = .ok (.invokevirtual 84, 3) := by decide +kernel
theorem dL_turns_65 : decode cL_turns 65 = .ok (.iload_n 3, 1) := by decide +kernel
theorem dL_turns_66 : decode cL_turns 66 = .ok (.if_icmp .ne 35, 3) := by decide +kernel
theorem dL_turns_69 : decode cL_turns 69 = .ok (.aload_n 0, 1) := by decide +kernel
theorem dL_turns_70 : decode cL_turns 70 = .ok (.iload_n 1, 1) := by decide +kernel
theorem dL_turns_71 : decode cL_turns 71 = .ok (.iconst 3, 1) := by decide +kernel
theorem dL_turns_72 : decode cL_turns 72 = .ok (.invokevirtual 84, 3) := by decide +kernel
theorem dL_turns_75 : decode cL_turns 75 = .ok (.iload_n 2, 1) := by decide +kernel
theorem dL_turns_76 : decode cL_turns 76 = .ok (.if_icmp .ne 25, 3) := by decide +kernel
theorem dL_turns_79 : decode cL_turns 79 = .ok (.aload_n 0, 1) := by decide +kernel
theorem dL_turns_80 : decode cL_turns 80 = .ok (.iload_n 1, 1) := by decide +kernel
theorem dL_turns_81 : decode cL_turns 81 = .ok (.iconst 2, 1) := by decide +kernel
theorem dL_turns_82 : decode cL_turns 82 = .ok (.invokevirtual 84, 3) := by decide +kernel
theorem dL_turns_85 : decode cL_turns 85 = .ok (.iload_n 3, 1) := by decide +kernel
theorem dL_turns_86 : decode cL_turns 86 = .ok (.iload_n 2, 1) := by decide +kernel
theorem dL_turns_87 : decode cL_turns 87 = .ok (.aload_n 0, 1) := by decide +kernel
theorem dL_turns_88 : decode cL_turns 88 = .ok (.iconst 2, 1) := by decide +kernel
theorem dL_turns_89 : decode cL_turns 89 = .ok (.invokevirtual 29, 3) := by decide +kernel
theorem dL_turns_92 : decode cL_turns 92 = .ok (.imul, 1) := by decide +kernel
theorem dL_turns_93 : decode cL_turns 93 = .ok (.isub, 1) := by decide +kernel
theorem dL_turns_94 : decode cL_turns 94 = .ok (.if_icmp .ne 7, 3) := by decide +kernel
theorem dL_turns_97 : decode cL_turns 97 = .ok (.iconst 1, 1) := by decide +kernel
theorem dL_turns_98 : decode cL_turns 98 = .ok (.goto 4, 3) := by decide +kernel
theorem dL_turns_101 : decode cL_turns 101 = .ok (.iconst 0, 1) := by decide +kernel
theorem dL_turns_102 : decode cL_turns 102 = .ok (.ireturn, 1) := by decide +kernel
theorem dL_blinds_0 : decode cL_blinds 0 = .ok (.aload_n 0, 1) := by decide +kernel
theorem dL_blinds_1 : decode cL_blinds 1 = .ok (.iload_n 1, 1) := by decide +kernel
theorem dL_blinds_2 : decode cL_blinds 2 = .ok (.iconst 0, 1) := by decide +kernel
theorem dL_blinds_3 : decode cL_blinds 3 = .ok (.invokevirtual 8, 3) := by decide +kernel
theorem dL_blinds_6 : decode cL_blinds 6 = .ok (.istore_n 2, 1) := by decide +kernel
theorem dL_blinds_7 : decode cL_blinds 7 = .ok (.aload_n 0, 1) := by decide +kernel
theorem dL_blinds_8 : decode cL_blinds 8 = .ok (.iconst 3, 1) := by decide +kernel
theorem dL_blinds_9 : decode cL_blinds 9 = .ok (.invokevirtual 29, 3) := by decide +kernel
theorem dL_blinds_12 : decode cL_blinds 12 = .ok (.istore_n 3, 1) := by decide +kernel
theorem dL_blinds_13 : decode cL_blinds 13 = .ok (.aload_n 0, 1) := by decide +kernel
theorem dL_blinds_14 : decode cL_blinds 14 = .ok (.iload_n 1, 1) := by decide +kernel
theorem dL_blinds_15 : decode cL_blinds 15 = .ok (.iload_n 2, 1) := by decide +kernel
theorem dL_blinds_16 : decode cL_blinds 16 = .ok (.invokevirtual 90, 3) := by decide +kernel
theorem dL_blinds_19 : decode cL_blinds 19 = .ok (.ldc 93, 2) := by decide +kernel
theorem dL_blinds_21 : decode cL_blinds 21 = .ok (.if_icmp .ne 25, 3) := by decide +kernel
theorem dL_blinds_24 : decode cL_blinds 24 = .ok (.aload_n 0, 1) := by decide +kernel
theorem dL_blinds_25 : decode cL_blinds 25 = .ok (.iload_n 1, 1) := by decide +kernel
theorem dL_blinds_26 : decode cL_blinds 26 = .ok (.iconst 1, 1) := by decide +kernel
theorem dL_blinds_27 : decode cL_blinds 27 = .ok (.iload_n 2, 1) := by decide +kernel
theorem dL_blinds_28 : decode cL_blinds 28 = .ok (.isub, 1) := by decide +kernel
theorem dL_blinds_29 : decode cL_blinds 29 = .ok (.invokevirtual 90, 3) := by decide +kernel
theorem dL_blinds_32 : decode cL_blinds 32 = .ok (.iload_n 3, 1) := by decide +kernel
theorem dL_blinds_33 : decode cL_blinds 33 = .ok (.iconst 1, 1) := by decide +kernel
theorem dL_blinds_34 : decode cL_blinds 34 = .ok (.iadd, 1) := by decide +kernel
theorem dL_blinds_35 : decode cL_blinds 35 = .ok (.iconst 2, 1) := by decide +kernel
theorem dL_blinds_36 : decode cL_blinds 36 = .ok (.iload_n 2, 1) := by decide +kernel
theorem dL_blinds_37 : decode cL_blinds 37 = .ok (.imul, 1) := by decide +kernel
theorem dL_blinds_38 : decode cL_blinds 38 = .ok (.isub, 1) := by decide +kernel
theorem dL_blinds_39 : decode cL_blinds 39 = .ok (.if_icmp .ne 7, 3) := by decide +kernel
theorem dL_blinds_42 : decode cL_blinds 42 = .ok (.iconst 1, 1) := by decide +kernel
theorem dL_blinds_43 : decode cL_blinds 43 = .ok (.goto 4, 3) := by decide +kernel
theorem dL_blinds_46 : decode cL_blinds 46 = .ok (.iconst 0, 1) := by decide +kernel
theorem dL_blinds_47 : decode cL_blinds 47 = .ok (.istore 4, 2) := by decide +kernel
theorem dL_blinds_49 : decode cL_blinds 49 = .ok (.iload 4, 2) := by decide +kernel
theorem dL_blinds_51 : decode cL_blinds 51 = .ok (.ifCond .eq 34, 3) := by decide +kernel
theorem dL_blinds_54 : decode cL_blinds 54 = .ok (.aload_n 0, 1) := by decide +kernel
theorem dL_blinds_55 : decode cL_blinds 55 = .ok (.iload_n 1, 1) := by decide +kernel
theorem dL_blinds_56 : decode cL_blinds 56 = .ok (.iconst 0, 1) := by decide +kernel
theorem dL_blinds_57 : decode cL_blinds 57 = .ok (.invokevirtual 8, 3) := by decide +kernel
theorem dL_blinds_60 : decode cL_blinds 60 = .ok (.iconst 1, 1) := by decide +kernel
theorem dL_blinds_61 : decode cL_blinds 61 = .ok (.iload_n 2, 1) := by decide +kernel
theorem dL_blinds_62 : decode cL_blinds 62 = .ok (.isub, 1) := by decide +kernel
theorem dL_blinds_63 : decode cL_blinds 63 = .ok (.if_icmp .ne 22, 3) := by decide +kernel
theorem dL_blinds_66 : decode cL_blinds 66 = .ok (.aload_n 0, 1) := by decide +kernel
theorem dL_blinds_67 : decode cL_blinds 67 = .ok (.iconst 3, 1) := by decide +kernel
theorem dL_blinds_68 : decode cL_blinds 68 = .ok (.invokevirtual 29, 3) := by decide +kernel
theorem dL_blinds_71 : decode cL_blinds 71 = .ok (.aload_n 0, 1) := by decide +kernel
theorem dL_blinds_72 : decode cL_blinds 72 = .ok (.invokestatic 54, 3) := by decide +kernel
theorem dL_blinds_75 : decode cL_blinds 75 = .ok (.invokestatic 48, 3) := by decide +kernel
theorem dL_blinds_78 : decode cL_blinds 78 = .ok (.if_icmp .ne 7, 3) := by decide +kernel
theorem dL_blinds_81 : decode cL_blinds 81 = .ok (.iconst 1, 1) := by decide +kernel
theorem dL_blinds_82 : decode cL_blinds 82 = .ok (.goto 4, 3) := by decide +kernel
theorem dL_blinds_85 : decode cL_blinds 85 = .ok (.iconst 0, 1) := by decide +kernel
theorem dL_blinds_86 : decode cL_blinds 86 = .ok (.ireturn, 1) := by decide +kernel
theorem dL_fits_0 : decode cL_fits 0 = .ok (.aload_n 0, 1) := by decide +kernel
theorem dL_fits_1 : decode cL_fits 1 = .ok (.bipush 10, 2) := by decide +kernel
theorem dL_fits_3 : decode cL_fits 3 = .ok (.invokevirtual 29, 3) := by decide +kernel
theorem dL_fits_6 : decode cL_fits 6 = .ok (.istore_n 2, 1) := by decide +kernel
theorem dL_fits_7 : decode cL_fits 7 = .ok (.iconst 1, 1) := by decide +kernel
theorem dL_fits_8 : decode cL_fits 8 = .ok (.istore_n 3, 1) := by decide +kernel
theorem dL_fits_9 : decode cL_fits 9 = .ok (.iconst 0, 1) := by decide +kernel
theorem dL_fits_10 : decode cL_fits 10 = .ok (.istore 4, 2) := by decide +kernel
theorem dL_fits_12 : decode cL_fits 12 = .ok (.iload 4, 2) := by decide +kernel
theorem dL_fits_14 : decode cL_fits 14 = .ok (.aload_n 0, 1) := by decide +kernel
theorem dL_fits_15 : decode cL_fits 15 = .ok (.iconst 1, 1) := by decide +kernel
theorem dL_fits_16 : decode cL_fits 16 = .ok (.invokevirtual 29, 3) := by decide +kernel
theorem dL_fits_19 : decode cL_fits 19 = .ok (.if_icmp .ge 41, 3) := by decide +kernel
theorem dL_fits_22 : decode cL_fits 22 = .ok (.iload_n 3, 1) := by decide +kernel
theorem dL_fits_23 : decode cL_fits 23 = .ok (.ifCond .eq 29, 3) := by decide +kernel
theorem dL_fits_26 : decode cL_fits 26 = .ok (.aload_n 0, 1) := by decide +kernel
theorem dL_fits_27 : decode cL_fits 27 = .ok (.iload 4, 2) := by decide +kernel
theorem dL_fits_29 : decode cL_fits 29 = .ok (.invokevirtual 51, 3) := by decide +kernel
theorem dL_fits_32 : decode cL_fits 32 = .ok (.aload_n 0, 1) := by decide +kernel
theorem dL_fits_33 : decode cL_fits 33 = .ok (.iload 4, 2) := by decide +kernel
theorem dL_fits_35 : decode cL_fits 35 = .ok (.iconst 1, 1) := by decide +kernel
theorem dL_fits_36 : decode cL_fits 36 = .ok (.invokevirtual 33, 3) := by decide +kernel
theorem dL_fits_39 : decode cL_fits 39 = .ok (.ior, 1) := by decide +kernel
theorem dL_fits_40 : decode cL_fits 40 = .ok (.iconst 1, 1) := by decide +kernel
theorem dL_fits_41 : decode cL_fits 41 = .ok (.iload_n 2, 1) := by decide +kernel
theorem dL_fits_42 : decode cL_fits 42 = .ok (.ishl, 1) := by decide +kernel
theorem dL_fits_43 : decode cL_fits 43 = .ok (.iconst 1, 1) := by decide +kernel
theorem dL_fits_44 : decode cL_fits 44 = .ok (.isub, 1) := by decide +kernel
theorem dL_fits_45 : decode cL_fits 45 = .ok (.if_icmp .ne 7, 3) := by decide +kernel
theorem dL_fits_48 : decode cL_fits 48 = .ok (.iconst 1, 1) := by decide +kernel
theorem dL_fits_49 : decode cL_fits 49 = .ok (.goto 4, 3) := by decide +kernel
theorem dL_fits_52 : decode cL_fits 52 = .ok (.iconst 0, 1) := by decide +kernel
theorem dL_fits_53 : decode cL_fits 53 = .ok (.istore_n 3, 1) := by decide +kernel
theorem dL_fits_54 : decode cL_fits 54 = .ok (.iinc 4 1, 3) := by decide +kernel
theorem dL_fits_57 : decode cL_fits 57 = .ok (.goto (-45), 3) := by decide +kernel
theorem dL_fits_60 : decode cL_fits 60 = .ok (.aload_n 0, 1) := by decide +kernel
theorem dL_fits_61 : decode cL_fits 61 = .ok (.iload_n 1, 1) := by decide +kernel
theorem dL_fits_62 : decode cL_fits 62 = .ok (.iconst 2, 1) := by decide +kernel
theorem dL_fits_63 : decode cL_fits 63 = .ok (.invokevirtual 84, 3) := by decide +kernel
theorem dL_fits_66 : decode cL_fits 66 = .ok (.istore 4, 2) := by decide +kernel
theorem dL_fits_68 : decode cL_fits 68 = .ok (.aload_n 0, 1) := by decide +kernel
theorem dL_fits_69 : decode cL_fits 69 = .ok (.iload_n 1, 1) := by decide +kernel
theorem dL_fits_70 : decode cL_fits 70 = .ok (.iconst 3, 1) := by decide +kernel
theorem dL_fits_71 : decode cL_fits 71 = .ok (.invokevirtual 84, 3) := by decide +kernel
theorem dL_fits_74 : decode cL_fits 74 = .ok (.istore 5, 2) := by decide +kernel
theorem dL_fits_76 : decode cL_fits 76 = .ok (.iload 4, 2) := by decide +kernel
theorem dL_fits_78 : decode cL_fits 78 = .ok (.sipush (-1000), 3) := by decide +kernel
theorem dL_fits_81 : decode cL_fits 81 = .ok (.if_icmp .lt 45, 3) := by decide +kernel
theorem dL_fits_84 : decode cL_fits 84 = .ok (.iload 4, 2) := by decide +kernel
theorem dL_fits_86 : decode cL_fits 86 = .ok (.sipush 2400, 3) := by decide +kernel
theorem dL_fits_89 : decode cL_fits 89 = .ok (.if_icmp .gt 37, 3) := by decide +kernel
theorem dL_fits_92 : decode cL_fits 92 = .ok (.iload 4, 2) := by decide +kernel
theorem dL_fits_94 : decode cL_fits 94 = .ok (.bipush 100, 2) := by decide +kernel
theorem dL_fits_96 : decode cL_fits 96 = .ok (.irem, 1) := by decide +kernel
theorem dL_fits_97 : decode cL_fits 97 = .ok (.ifCond .ne 29, 3) := by decide +kernel
theorem dL_fits_100 : decode cL_fits 100 = .ok (.iload 5, 2) := by decide +kernel
theorem dL_fits_102 : decode cL_fits 102 = .ok (.bipush (-100), 2) := by decide +kernel
theorem dL_fits_104 : decode cL_fits 104 = .ok (.if_icmp .lt 22, 3) := by decide +kernel
theorem dL_fits_107 : decode cL_fits 107 = .ok (.iload 5, 2) := by decide +kernel
theorem dL_fits_109 : decode cL_fits 109 = .ok (.bipush 100, 2) := by decide +kernel
theorem dL_fits_111 : decode cL_fits 111 = .ok (.if_icmp .gt 15, 3) := by decide +kernel
theorem dL_fits_114 : decode cL_fits 114 = .ok (.iload 5, 2) := by decide +kernel
theorem dL_fits_116 : decode cL_fits 116 = .ok (.bipush 10, 2) := by decide +kernel
theorem dL_fits_118 : decode cL_fits 118 = .ok (.irem, 1) := by decide +kernel
theorem dL_fits_119 : decode cL_fits 119 = .ok (.ifCond .ne 7, 3) := by decide +kernel
theorem dL_fits_122 : decode cL_fits 122 = .ok (.iconst 1, 1) := by decide +kernel
theorem dL_fits_123 : decode cL_fits 123 = .ok (.goto 4, 3) := by decide +kernel
theorem dL_fits_126 : decode cL_fits 126 = .ok (.iconst 0, 1) := by decide +kernel
theorem dL_fits_127 : decode cL_fits 127 = .ok (.istore 6, 2) := by decide +kernel
theorem dL_fits_129 : decode cL_fits 129 = .ok (.aload_n 0, 1) := by decide +kernel
theorem dL_fits_130 : decode cL_fits 130 = .ok (.iload_n 1, 1) := by decide +kernel
theorem dL_fits_131 : decode cL_fits 131 = .ok (.iconst 0, 1) := by decide +kernel
theorem dL_fits_132 : decode cL_fits 132 = .ok (.invokevirtual 94, 3) := by decide +kernel
theorem dL_fits_135 : decode cL_fits 135 = .ok (.istore 7, 2) := by decide +kernel
theorem dL_fits_137 : decode cL_fits 137 = .ok (.iload 7, 2) := by decide +kernel
theorem dL_fits_139 : decode cL_fits 139 = .ok (.ifCond .lt 63, 3) := by decide +kernel
theorem dL_fits_142 : decode cL_fits 142 = .ok (.iload 7, 2) := by decide +kernel
theorem dL_fits_144 : decode cL_fits 144 = .ok (.sipush 735, 3) := by decide +kernel
theorem dL_fits_147 : decode cL_fits 147 = .ok (.if_icmp .gt 55, 3) := by decide +kernel
theorem dL_fits_150 : decode cL_fits 150 = .ok (.aload_n 0, 1) := by decide +kernel
theorem dL_fits_151 : decode cL_fits 151 = .ok (.invokevirtual 97, 3) := by decide +kernel
theorem dL_fits_154 : decode cL_fits 154 = .ok (.aload_n 0, 1) := by decide +kernel
theorem dL_fits_155 : decode cL_fits 155 = .ok (.bipush 15, 2) := by decide +kernel
theorem dL_fits_157 : decode cL_fits 157 = .ok (.invokevirtual 29, 3) := by decide +kernel
theorem dL_fits_160 : decode cL_fits 160 = .ok (.invokestatic 39, 3) := by decide +kernel
theorem dL_fits_163 : decode cL_fits 163 = .ok (.iload_n 3, 1) := by decide +kernel
theorem dL_fits_164 : decode cL_fits 164 = .ok (.if_icmp .ne 38, 3) := by decide +kernel
theorem dL_fits_167 : decode cL_fits 167 = .ok (.iload_n 3, 1) := by decide +kernel
theorem dL_fits_168 : decode cL_fits 168 = .ok (.ifCond .eq 13, 3) := by decide +kernel
theorem dL_fits_171 : decode cL_fits 171 = .ok (.iload 6, 2) := by decide +kernel
theorem dL_fits_173 : decode cL_fits 173 = .ok (.ifCond .eq 8, 3) := by decide +kernel
theorem dL_fits_176 : decode cL_fits 176 = .ok (.iload 7, 2) := by decide +kernel
theorem dL_fits_178 : decode cL_fits 178 = .ok (.ifCond .le 24, 3) := by decide +kernel
theorem dL_fits_181 : decode cL_fits 181 = .ok (.iload_n 3, 1) := by decide +kernel
theorem dL_fits_182 : decode cL_fits 182 = .ok (.ifCond .ne 16, 3) := by decide +kernel
theorem dL_fits_185 : decode cL_fits 185 = .ok (.iload 6, 2) := by decide +kernel
theorem dL_fits_187 : decode cL_fits 187 = .ok (.ifCond .eq 11, 3) := by decide +kernel
theorem dL_fits_190 : decode cL_fits 190 = .ok (.iload 7, 2) := by decide +kernel
theorem dL_fits_192 : decode cL_fits 192 = .ok (.sipush 735, 3) := by decide +kernel
theorem dL_fits_195 : decode cL_fits 195 = .ok (.if_icmp .ge 7, 3) := by decide +kernel
theorem dL_fits_198 : decode cL_fits 198 = .ok (.iconst 1, 1) := by decide +kernel
theorem dL_fits_199 : decode cL_fits 199 = .ok (.goto 4, 3) := by decide +kernel
theorem dL_fits_202 : decode cL_fits 202 = .ok (.iconst 0, 1) := by decide +kernel
theorem dL_fits_203 : decode cL_fits 203 = .ok (.istore 8, 2) := by decide +kernel
theorem dL_fits_205 : decode cL_fits 205 = .ok (.iload 7, 2) := by decide +kernel
theorem dL_fits_207 : decode cL_fits 207 = .ok (.ifCond .ne 36, 3) := by decide +kernel
theorem dL_fits_210 : decode cL_fits 210 = .ok (.iload 8, 2) := by decide +kernel
theorem dL_fits_212 : decode cL_fits 212 = .ok (.ifCond .eq 29, 3) := by decide +kernel
theorem dL_fits_215 : decode cL_fits 215 = .ok (.aload_n 0, 1) := by decide +kernel
theorem dL_fits_216 : decode cL_fits 216 = .ok (.iload_n 1, 1) := by decide +kernel
theorem dL_fits_217 : decode cL_fits 217 = .ok (.iconst 1, 1) := by decide +kernel
theorem dL_fits_218 : decode cL_fits 218 = .ok (.invokevirtual 94, 3) := by decide +kernel
theorem dL_fits_221 : decode cL_fits 221 = .ok (.ldc 43, 2) := by decide +kernel
theorem dL_fits_223 : decode cL_fits 223 = .ok (.if_icmp .ne 18, 3) := by decide +kernel
theorem dL_fits_226 : decode cL_fits 226 = .ok (.aload_n 0, 1) := by decide +kernel
theorem dL_fits_227 : decode cL_fits 227 = .ok (.iload_n 1, 1) := by decide +kernel
theorem dL_fits_228 : decode cL_fits 228 = .ok (.iconst 4, 1) := by decide +kernel
theorem dL_fits_229 : decode cL_fits 229 = .ok (.invokevirtual 94, 3) := by decide +kernel
theorem dL_fits_232 : decode cL_fits 232 = .ok (.ldc 43, 2) := by decide +kernel
theorem dL_fits_234 : decode cL_fits 234 = .ok (.if_icmp .ne 7, 3) := by decide +kernel
theorem dL_fits_237 : decode cL_fits 237 = .ok (.iconst 1, 1) := by decide +kernel
theorem dL_fits_238 : decode cL_fits 238 = .ok (.goto 4, 3) := by decide +kernel
theorem dL_fits_241 : decode cL_fits 241 = .ok (.iconst 0, 1) := by decide +kernel
theorem dL_fits_242 : decode cL_fits 242 = .ok (.ireturn, 1) := by decide +kernel
theorem dL_fits_243 : decode cL_fits 243 = .ok (.bipush 21, 2) := by decide +kernel
theorem dL_fits_245 : decode cL_fits 245 = .ok (.aload_n 0, 1) := by decide +kernel
theorem dL_fits_246 : decode cL_fits 246 = .ok (.iload_n 1, 1) := by decide +kernel
theorem dL_fits_247 : decode cL_fits 247 = .ok (.iconst 1, 1) := by decide +kernel
theorem dL_fits_248 : decode cL_fits 248 = .ok (.invokevirtual 94, 3) := by decide +kernel
theorem dL_fits_251 : decode cL_fits 251 = .ok (.sipush 1000, 3) := by decide +kernel
theorem dL_fits_254 : decode cL_fits 254 = .ok (.iadd, 1) := by decide +kernel
theorem dL_fits_255 : decode cL_fits 255 = .ok (.bipush 100, 2) := by decide +kernel
theorem dL_fits_257 : decode cL_fits 257 = .ok (.idiv, 1) := by decide +kernel
theorem dL_fits_258 : decode cL_fits 258 = .ok (.imul, 1) := by decide +kernel
theorem dL_fits_259 : decode cL_fits 259 = .ok (.aload_n 0, 1) := by decide +kernel
theorem dL_fits_260 : decode cL_fits 260 = .ok (.iload_n 1, 1) := by decide +kernel
theorem dL_fits_261 : decode cL_fits 261 = .ok (.iconst 2, 1) := by decide +kernel
theorem dL_fits_262 : decode cL_fits 262 = .ok (.invokevirtual 94, 3) := by decide +kernel
theorem dL_fits_265 : decode cL_fits 265 = .ok (.bipush 100, 2) := by decide +kernel
theorem dL_fits_267 : decode cL_fits 267 = .ok (.iadd, 1) := by decide +kernel
theorem dL_fits_268 : decode cL_fits 268 = .ok (.bipush 10, 2) := by decide +kernel
theorem dL_fits_270 : decode cL_fits 270 = .ok (.idiv, 1) := by decide +kernel
theorem dL_fits_271 : decode cL_fits 271 = .ok (.iadd, 1) := by decide +kernel
theorem dL_fits_272 : decode cL_fits 272 = .ok (.istore 9, 2) := by decide +kernel
theorem dL_fits_274 : decode cL_fits 274 = .ok (.bipush 21, 2) := by decide +kernel
theorem dL_fits_276 : decode cL_fits 276 = .ok (.aload_n 0, 1) := by decide +kernel
theorem dL_fits_277 : decode cL_fits 277 = .ok (.iload_n 1, 1) := by decide +kernel
theorem dL_fits_278 : decode cL_fits 278 = .ok (.iconst 3, 1) := by decide +kernel
theorem dL_fits_279 : decode cL_fits 279 = .ok (.invokevirtual 94, 3) := by decide +kernel
theorem dL_fits_282 : decode cL_fits 282 = .ok (.sipush 1000, 3) := by decide +kernel
theorem dL_fits_285 : decode cL_fits 285 = .ok (.iadd, 1) := by decide +kernel
theorem dL_fits_286 : decode cL_fits 286 = .ok (.bipush 100, 2) := by decide +kernel
theorem dL_fits_288 : decode cL_fits 288 = .ok (.idiv, 1) := by decide +kernel
theorem dL_fits_289 : decode cL_fits 289 = .ok (.imul, 1) := by decide +kernel
theorem dL_fits_290 : decode cL_fits 290 = .ok (.aload_n 0, 1) := by decide +kernel
theorem dL_fits_291 : decode cL_fits 291 = .ok (.iload_n 1, 1) := by decide +kernel
theorem dL_fits_292 : decode cL_fits 292 = .ok (.iconst 4, 1) := by decide +kernel
theorem dL_fits_293 : decode cL_fits 293 = .ok (.invokevirtual 94, 3) := by decide +kernel
theorem dL_fits_296 : decode cL_fits 296 = .ok (.bipush 100, 2) := by decide +kernel
theorem dL_fits_298 : decode cL_fits 298 = .ok (.iadd, 1) := by decide +kernel
theorem dL_fits_299 : decode cL_fits 299 = .ok (.bipush 10, 2) := by decide +kernel
theorem dL_fits_301 : decode cL_fits 301 = .ok (.idiv, 1) := by decide +kernel
theorem dL_fits_302 : decode cL_fits 302 = .ok (.iadd, 1) := by decide +kernel
theorem dL_fits_303 : decode cL_fits 303 = .ok (.istore 10, 2) := by decide +kernel
theorem dL_fits_305 : decode cL_fits 305 = .ok (.iload 8, 2) := by decide +kernel
theorem dL_fits_307 : decode cL_fits 307 = .ok (.ifCond .eq 45, 3) := by decide +kernel
theorem dL_fits_310 : decode cL_fits 310 = .ok (.iload 9, 2) := by decide +kernel
theorem dL_fits_312 : decode cL_fits 312 = .ok (.ifCond .lt 40, 3) := by decide +kernel
theorem dL_fits_315 : decode cL_fits 315 = .ok (.iload 10, 2) := by decide +kernel
theorem dL_fits_317 : decode cL_fits 317 = .ok (.sipush 735, 3) := by decide +kernel
theorem dL_fits_320 : decode cL_fits 320 = .ok (.if_icmp .ge 32, 3) := by decide +kernel
theorem dL_fits_323 : decode cL_fits 323 = .ok (.iload 10, 2) := by decide +kernel
theorem dL_fits_325 : decode cL_fits 325 = .ok (.iload 9, 2) := by decide +kernel
theorem dL_fits_327 : decode cL_fits 327 = .ok (.isub, 1) := by decide +kernel
theorem dL_fits_328 : decode cL_fits 328 = .ok (.iload 7, 2) := by decide +kernel
theorem dL_fits_330 : decode cL_fits 330 = .ok (.iconst 1, 1) := by decide +kernel
theorem dL_fits_331 : decode cL_fits 331 = .ok (.isub, 1) := by decide +kernel
theorem dL_fits_332 : decode cL_fits 332 = .ok (.if_icmp .lt 20, 3) := by decide +kernel
theorem dL_fits_335 : decode cL_fits 335 = .ok (.iload 7, 2) := by decide +kernel
theorem dL_fits_337 : decode cL_fits 337 = .ok (.iconst 1, 1) := by decide +kernel
theorem dL_fits_338 : decode cL_fits 338 = .ok (.if_icmp .gt 10, 3) := by decide +kernel
theorem dL_fits_341 : decode cL_fits 341 = .ok (.iload 9, 2) := by decide +kernel
theorem dL_fits_343 : decode cL_fits 343 = .ok (.iload 10, 2) := by decide +kernel
theorem dL_fits_345 : decode cL_fits 345 = .ok (.if_icmp .ne 7, 3) := by decide +kernel
theorem dL_fits_348 : decode cL_fits 348 = .ok (.iconst 1, 1) := by decide +kernel
theorem dL_fits_349 : decode cL_fits 349 = .ok (.goto 4, 3) := by decide +kernel
theorem dL_fits_352 : decode cL_fits 352 = .ok (.iconst 0, 1) := by decide +kernel
theorem dL_fits_353 : decode cL_fits 353 = .ok (.ireturn, 1) := by decide +kernel
theorem dL_law_0 : decode cL_law 0 = .ok (.new 9, 3) := by decide +kernel
theorem dL_law_3 : decode cL_law 3 = .ok (.dup, 1) := by decide +kernel
theorem dL_law_4 : decode cL_law 4 = .ok (.invokespecial 100, 3) := by decide +kernel
theorem dL_law_7 : decode cL_law 7 = .ok (.astore_n 1, 1) := by decide +kernel
theorem dL_law_8 : decode cL_law 8 = .ok (.aload_n 1, 1) := by decide +kernel
theorem dL_law_9 : decode cL_law 9 = .ok (.aload_n 0, 1) := by decide +kernel
theorem dL_law_10 : decode cL_law 10 = .ok (.invokestatic 101, 3) := by decide +kernel
theorem dL_law_13 : decode cL_law 13 = .ok (.aload_n 1, 1) := by decide +kernel
theorem dL_law_14 : decode cL_law 14 = .ok (.iconst 0, 1) := by decide +kernel
theorem dL_law_15 : decode cL_law 15 = .ok (.invokevirtual 29, 3) := by decide +kernel
theorem dL_law_18 : decode cL_law 18 = .ok (.iconst 3, 1) := by decide +kernel
theorem dL_law_19 : decode cL_law 19 = .ok (.if_icmp .ne 17, 3) := by decide +kernel
theorem dL_law_22 : decode cL_law 22 = .ok (.aload_n 1, 1) := by decide +kernel
theorem dL_law_23 : decode cL_law 23 = .ok (.bipush 6, 2) := by decide +kernel
theorem dL_law_25 : decode cL_law 25 = .ok (.invokevirtual 29, 3) := by decide +kernel
theorem dL_law_28 : decode cL_law 28 = .ok (.iconst 4, 1) := by decide +kernel
theorem dL_law_29 : decode cL_law 29 = .ok (.if_icmp .ne 7, 3) := by decide +kernel
theorem dL_law_32 : decode cL_law 32 = .ok (.iconst 1, 1) := by decide +kernel
theorem dL_law_33 : decode cL_law 33 = .ok (.goto 4, 3) := by decide +kernel
theorem dL_law_36 : decode cL_law 36 = .ok (.iconst 0, 1) := by decide +kernel
theorem dL_law_37 : decode cL_law 37 = .ok (.istore_n 2, 1) := by decide +kernel
theorem dL_law_38 : decode cL_law 38 = .ok (.iconst 0, 1) := by decide +kernel
theorem dL_law_39 : decode cL_law 39 = .ok (.istore_n 3, 1) := by decide +kernel
theorem dL_law_40 : decode cL_law 40 = .ok (.iconst 0, 1) := by decide +kernel
theorem dL_law_41 : decode cL_law 41 = .ok (.istore 4, 2) := by decide +kernel
theorem dL_law_43 : decode cL_law 43 = .ok (.iload 4, 2) := by decide +kernel
theorem dL_law_45 : decode cL_law 45 = .ok (.bipush 26, 2) := by decide +kernel
theorem dL_law_47 : decode cL_law 47 = .ok (.if_icmp .ge 367, 3) := by decide +kernel
theorem dL_law_50 : decode cL_law 50 = .ok (.iload_n 2, 1) := by decide +kernel
theorem dL_law_51 : decode cL_law 51 = .ok (.ifCond .eq 363, 3) := by decide +kernel
theorem dL_law_54 : decode cL_law 54 = .ok (.aload_n 0, 1) := by decide +kernel
theorem dL_law_55 : decode cL_law 55 = .ok (.bipush 7, 2) := by decide +kernel
theorem dL_law_57 : decode cL_law 57 = .ok (.iload 4, 2) := by decide +kernel
theorem dL_law_59 : decode cL_law 59 = .ok (.iadd, 1) := by decide +kernel
theorem dL_law_60 : decode cL_law 60 = .ok (.invokestatic 14, 3) := by decide +kernel
theorem dL_law_63 : decode cL_law 63 = .ok (.istore 5, 2) := by decide +kernel
theorem dL_law_65 : decode cL_law 65 = .ok (.iload 5, 2) := by decide +kernel
theorem dL_law_67 : decode cL_law 67 = .ok (.bipush 16, 2) := by decide +kernel
theorem dL_law_69 : decode cL_law 69 = .ok (.idiv, 1) := by decide +kernel
theorem dL_law_70 : decode cL_law 70 = .ok (.istore 6, 2) := by decide +kernel
theorem dL_law_72 : decode cL_law 72 = .ok (.iload 5, 2) := by decide +kernel
theorem dL_law_74 : decode cL_law 74 = .ok (.bipush 16, 2) := by decide +kernel
theorem dL_law_76 : decode cL_law 76 = .ok (.irem, 1) := by decide +kernel
theorem dL_law_77 : decode cL_law 77 = .ok (.tableswitch 296 0 9 #[55, 79, 104, 117, 130, 197, 225, 256, 256, 256], 55) := by decide +kernel
theorem dL_law_132 : decode cL_law 132 = .ok (.aload_n 1, 1) := by decide +kernel
theorem dL_law_133 : decode cL_law 133 = .ok (.iload 6, 2) := by decide +kernel
theorem dL_law_135 : decode cL_law 135 = .ok (.iconst 3, 1) := by decide +kernel
theorem dL_law_136 : decode cL_law 136 = .ok (.irem, 1) := by decide +kernel
theorem dL_law_137 : decode cL_law 137 = .ok (.iload 6, 2) := by decide +kernel
theorem dL_law_139 : decode cL_law 139 = .ok (.iconst 4, 1) := by decide +kernel
theorem dL_law_140 : decode cL_law 140 = .ok (.idiv, 1) := by decide +kernel
theorem dL_law_141 : decode cL_law 141 = .ok (.sipush 401, 3) := by decide +kernel
theorem dL_law_144 : decode cL_law 144 = .ok (.irem, 1) := by decide +kernel
theorem dL_law_145 : decode cL_law 145 = .ok (.sipush 200, 3) := by decide +kernel
theorem dL_law_148 : decode cL_law 148 = .ok (.isub, 1) := by decide +kernel
theorem dL_law_149 : decode cL_law 149 = .ok (.invokestatic 105, 3) := by decide +kernel
theorem dL_law_152 : decode cL_law 152 = .ok (.istore_n 2, 1) := by decide +kernel
theorem dL_law_153 : decode cL_law 153 = .ok (.goto 225, 3) := by decide +kernel
theorem dL_law_156 : decode cL_law 156 = .ok (.aload_n 1, 1) := by decide +kernel
theorem dL_law_157 : decode cL_law 157 = .ok (.iload 6, 2) := by decide +kernel
theorem dL_law_159 : decode cL_law 159 = .ok (.iconst 3, 1) := by decide +kernel
theorem dL_law_160 : decode cL_law 160 = .ok (.irem, 1) := by decide +kernel
theorem dL_law_161 : decode cL_law 161 = .ok (.bipush 10, 2) := by decide +kernel
theorem dL_law_163 : decode cL_law 163 = .ok (.iload 6, 2) := by decide +kernel
theorem dL_law_165 : decode cL_law 165 = .ok (.iconst 4, 1) := by decide +kernel
theorem dL_law_166 : decode cL_law 166 = .ok (.idiv, 1) := by decide +kernel
theorem dL_law_167 : decode cL_law 167 = .ok (.bipush 21, 2) := by decide +kernel
theorem dL_law_169 : decode cL_law 169 = .ok (.irem, 1) := by decide +kernel
theorem dL_law_170 : decode cL_law 170 = .ok (.bipush 10, 2) := by decide +kernel
theorem dL_law_172 : decode cL_law 172 = .ok (.isub, 1) := by decide +kernel
theorem dL_law_173 : decode cL_law 173 = .ok (.imul, 1) := by decide +kernel
theorem dL_law_174 : decode cL_law 174 = .ok (.invokestatic 105, 3) := by decide +kernel
theorem dL_law_177 : decode cL_law 177 = .ok (.istore_n 2, 1) := by decide +kernel
theorem dL_law_178 : decode cL_law 178 = .ok (.goto 200, 3) := by decide +kernel
theorem dL_law_181 : decode cL_law 181 = .ok (.aload_n 1, 1) := by decide +kernel
theorem dL_law_182 : decode cL_law 182 = .ok (.iload 6, 2) := by decide +kernel
theorem dL_law_184 : decode cL_law 184 = .ok (.bipush 10, 2) := by decide +kernel
theorem dL_law_186 : decode cL_law 186 = .ok (.irem, 1) := by decide +kernel
theorem dL_law_187 : decode cL_law 187 = .ok (.invokestatic 109, 3) := by decide +kernel
theorem dL_law_190 : decode cL_law 190 = .ok (.istore_n 2, 1) := by decide +kernel
theorem dL_law_191 : decode cL_law 191 = .ok (.goto 187, 3) := by decide +kernel
theorem dL_law_194 : decode cL_law 194 = .ok (.aload_n 1, 1) := by decide +kernel
theorem dL_law_195 : decode cL_law 195 = .ok (.iload 6, 2) := by decide +kernel
theorem dL_law_197 : decode cL_law 197 = .ok (.bipush 6, 2) := by decide +kernel
theorem dL_law_199 : decode cL_law 199 = .ok (.irem, 1) := by decide +kernel
theorem dL_law_200 : decode cL_law 200 = .ok (.invokestatic 112, 3) := by decide +kernel
theorem dL_law_203 : decode cL_law 203 = .ok (.istore_n 2, 1) := by decide +kernel
theorem dL_law_204 : decode cL_law 204 = .ok (.goto 174, 3) := by decide +kernel
theorem dL_law_207 : decode cL_law 207 = .ok (.iconst 3, 1) := by decide +kernel
theorem dL_law_208 : decode cL_law 208 = .ok (.iload 6, 2) := by decide +kernel
theorem dL_law_210 : decode cL_law 210 = .ok (.iconst 5, 1) := by decide +kernel
theorem dL_law_211 : decode cL_law 211 = .ok (.irem, 1) := by decide +kernel
theorem dL_law_212 : decode cL_law 212 = .ok (.iadd, 1) := by decide +kernel
theorem dL_law_213 : decode cL_law 213 = .ok (.istore 7, 2) := by decide +kernel
theorem dL_law_215 : decode cL_law 215 = .ok (.iconst 1, 1) := by decide +kernel
theorem dL_law_216 : decode cL_law 216 = .ok (.iload 6, 2) := by decide +kernel
theorem dL_law_218 : decode cL_law 218 = .ok (.bipush 8, 2) := by decide +kernel
theorem dL_law_220 : decode cL_law 220 = .ok (.idiv, 1) := by decide +kernel
theorem dL_law_221 : decode cL_law 221 = .ok (.bipush 20, 2) := by decide +kernel
theorem dL_law_223 : decode cL_law 223 = .ok (.irem, 1) := by decide +kernel
theorem dL_law_224 : decode cL_law 224 = .ok (.iadd, 1) := by decide +kernel
theorem dL_law_225 : decode cL_law 225 = .ok (.istore 8, 2) := by decide +kernel
theorem dL_law_227 : decode cL_law 227 = .ok (.aload_n 1, 1) := by decide +kernel
theorem dL_law_228 : decode cL_law 228 = .ok (.bipush 10, 2) := by decide +kernel
theorem dL_law_230 : decode cL_law 230 = .ok (.iload 7, 2) := by decide +kernel
theorem dL_law_232 : decode cL_law 232 = .ok (.iadd, 1) := by decide +kernel
theorem dL_law_233 : decode cL_law 233 = .ok (.invokevirtual 29, 3) := by decide +kernel
theorem dL_law_236 : decode cL_law 236 = .ok (.istore 9, 2) := by decide +kernel
theorem dL_law_238 : decode cL_law 238 = .ok (.aload_n 1, 1) := by decide +kernel
theorem dL_law_239 : decode cL_law 239 = .ok (.iload 7, 2) := by decide +kernel
theorem dL_law_241 : decode cL_law 241 = .ok (.iload 8, 2) := by decide +kernel
theorem dL_law_243 : decode cL_law 243 = .ok (.invokevirtual 20, 3) := by decide +kernel
theorem dL_law_246 : decode cL_law 246 = .ok (.iload 9, 2) := by decide +kernel
theorem dL_law_248 : decode cL_law 248 = .ok (.if_icmp .ne 21, 3) := by decide +kernel
theorem dL_law_251 : decode cL_law 251 = .ok (.aload_n 1, 1) := by decide +kernel
theorem dL_law_252 : decode cL_law 252 = .ok (.bipush 10, 2) := by decide +kernel
theorem dL_law_254 : decode cL_law 254 = .ok (.iload 7, 2) := by decide +kernel
theorem dL_law_256 : decode cL_law 256 = .ok (.iadd, 1) := by decide +kernel
theorem dL_law_257 : decode cL_law 257 = .ok (.invokevirtual 29, 3) := by decide +kernel
theorem dL_law_260 : decode cL_law 260 = .ok (.iload 8, 2) := by decide +kernel
theorem dL_law_262 : decode cL_law 262 = .ok (.if_icmp .ne 7, 3) := by decide +kernel
theorem dL_law_265 : decode cL_law 265 = .ok (.iconst 1, 1) := by decide +kernel
theorem dL_law_266 : decode cL_law 266 = .ok (.goto 4, 3) := by decide +kernel
theorem dL_law_269 : decode cL_law 269 = .ok (.iconst 0, 1) := by decide +kernel
theorem dL_law_270 : decode cL_law 270 = .ok (.istore_n 2, 1) := by decide +kernel
theorem dL_law_271 : decode cL_law 271 = .ok (.goto 107, 3) := by decide +kernel
theorem dL_law_274 : decode cL_law 274 = .ok (.iload_n 3, 1) := by decide +kernel
theorem dL_law_275 : decode cL_law 275 = .ok (.iconst 1, 1) := by decide +kernel
theorem dL_law_276 : decode cL_law 276 = .ok (.if_icmp .gt 14, 3) := by decide +kernel
theorem dL_law_279 : decode cL_law 279 = .ok (.aload_n 1, 1) := by decide +kernel
theorem dL_law_280 : decode cL_law 280 = .ok (.iload 6, 2) := by decide +kernel
theorem dL_law_282 : decode cL_law 282 = .ok (.iconst 3, 1) := by decide +kernel
theorem dL_law_283 : decode cL_law 283 = .ok (.irem, 1) := by decide +kernel
theorem dL_law_284 : decode cL_law 284 = .ok (.invokestatic 115, 3) := by decide +kernel
theorem dL_law_287 : decode cL_law 287 = .ok (.ifCond .eq 7, 3) := by decide +kernel
theorem dL_law_290 : decode cL_law 290 = .ok (.iconst 1, 1) := by decide +kernel
theorem dL_law_291 : decode cL_law 291 = .ok (.goto 4, 3) := by decide +kernel
theorem dL_law_294 : decode cL_law 294 = .ok (.iconst 0, 1) := by decide +kernel
theorem dL_law_295 : decode cL_law 295 = .ok (.istore_n 2, 1) := by decide +kernel
theorem dL_law_296 : decode cL_law 296 = .ok (.iinc 3 1, 3) := by decide +kernel
theorem dL_law_299 : decode cL_law 299 = .ok (.goto 79, 3) := by decide +kernel
theorem dL_law_302 : decode cL_law 302 = .ok (.aload_n 1, 1) := by decide +kernel
theorem dL_law_303 : decode cL_law 303 = .ok (.iconst 1, 1) := by decide +kernel
theorem dL_law_304 : decode cL_law 304 = .ok (.invokevirtual 29, 3) := by decide +kernel
theorem dL_law_307 : decode cL_law 307 = .ok (.ifCond .eq 17, 3) := by decide +kernel
theorem dL_law_310 : decode cL_law 310 = .ok (.aload_n 1, 1) := by decide +kernel
theorem dL_law_311 : decode cL_law 311 = .ok (.iload 6, 2) := by decide +kernel
theorem dL_law_313 : decode cL_law 313 = .ok (.iconst 3, 1) := by decide +kernel
theorem dL_law_314 : decode cL_law 314 = .ok (.irem, 1) := by decide +kernel
theorem dL_law_315 : decode cL_law 315 = .ok (.iconst 4, 1) := by decide +kernel
theorem dL_law_316 : decode cL_law 316 = .ok (.invokevirtual 20, 3) := by decide +kernel
theorem dL_law_319 : decode cL_law 319 = .ok (.ldc 93, 2) := by decide +kernel
theorem dL_law_321 : decode cL_law 321 = .ok (.if_icmp .ne 7, 3) := by decide +kernel
theorem dL_law_324 : decode cL_law 324 = .ok (.iconst 1, 1) := by decide +kernel
theorem dL_law_325 : decode cL_law 325 = .ok (.goto 4, 3) := by decide +kernel
theorem dL_law_328 : decode cL_law 328 = .ok (.iconst 0, 1) := by decide +kernel
theorem dL_law_329 : decode cL_law 329 = .ok (.istore_n 2, 1) := by decide +kernel
theorem dL_law_330 : decode cL_law 330 = .ok (.goto 48, 3) := by decide +kernel
theorem dL_law_333 : decode cL_law 333 = .ok (.aload_n 1, 1) := by decide +kernel
theorem dL_law_334 : decode cL_law 334 = .ok (.iconst 2, 1) := by decide +kernel
theorem dL_law_335 : decode cL_law 335 = .ok (.invokevirtual 29, 3) := by decide +kernel
theorem dL_law_338 : decode cL_law 338 = .ok (.istore 10, 2) := by decide +kernel
theorem dL_law_340 : decode cL_law 340 = .ok (.aload_n 1, 1) := by decide +kernel
theorem dL_law_341 : decode cL_law 341 = .ok (.iconst 1, 1) := by decide +kernel
theorem dL_law_342 : decode cL_law 342 = .ok (.iload 6, 2) := by decide +kernel
theorem dL_law_344 : decode cL_law 344 = .ok (.bipush 60, 2) := by decide +kernel
theorem dL_law_346 : decode cL_law 346 = .ok (.irem, 1) := by decide +kernel
theorem dL_law_347 : decode cL_law 347 = .ok (.iadd, 1) := by decide +kernel
theorem dL_law_348 : decode cL_law 348 = .ok (.invokevirtual 118, 3) := by decide +kernel
theorem dL_law_351 : decode cL_law 351 = .ok (.iload 10, 2) := by decide +kernel
theorem dL_law_353 : decode cL_law 353 = .ok (.iconst 1, 1) := by decide +kernel
theorem dL_law_354 : decode cL_law 354 = .ok (.iadd, 1) := by decide +kernel
theorem dL_law_355 : decode cL_law 355 = .ok (.iload 6, 2) := by decide +kernel
theorem dL_law_357 : decode cL_law 357 = .ok (.bipush 60, 2) := by decide +kernel
theorem dL_law_359 : decode cL_law 359 = .ok (.irem, 1) := by decide +kernel
theorem dL_law_360 : decode cL_law 360 = .ok (.iadd, 1) := by decide +kernel
theorem dL_law_361 : decode cL_law 361 = .ok (.if_icmp .ne 7, 3) := by decide +kernel
theorem dL_law_364 : decode cL_law 364 = .ok (.iconst 1, 1) := by decide +kernel
theorem dL_law_365 : decode cL_law 365 = .ok (.goto 4, 3) := by decide +kernel
theorem dL_law_368 : decode cL_law 368 = .ok (.iconst 0, 1) := by decide +kernel
theorem dL_law_369 : decode cL_law 369 = .ok (.istore_n 2, 1) := by decide +kernel
theorem dL_law_370 : decode cL_law 370 = .ok (.goto 8, 3) := by decide +kernel
theorem dL_law_373 : decode cL_law 373 = .ok (.aload_n 1, 1) := by decide +kernel
theorem dL_law_374 : decode cL_law 374 = .ok (.invokestatic 121, 3) := by decide +kernel
theorem dL_law_377 : decode cL_law 377 = .ok (.istore_n 2, 1) := by decide +kernel
theorem dL_law_378 : decode cL_law 378 = .ok (.iconst 0, 1) := by decide +kernel
theorem dL_law_379 : decode cL_law 379 = .ok (.istore 7, 2) := by decide +kernel
theorem dL_law_381 : decode cL_law 381 = .ok (.iload 7, 2) := by decide +kernel
theorem dL_law_383 : decode cL_law 383 = .ok (.aload_n 1, 1) := by decide +kernel
theorem dL_law_384 : decode cL_law 384 = .ok (.iconst 1, 1) := by decide +kernel
theorem dL_law_385 : decode cL_law 385 = .ok (.invokevirtual 29, 3) := by decide +kernel
theorem dL_law_388 : decode cL_law 388 = .ok (.if_icmp .ge 20, 3) := by decide +kernel
theorem dL_law_391 : decode cL_law 391 = .ok (.iload_n 2, 1) := by decide +kernel
theorem dL_law_392 : decode cL_law 392 = .ok (.ifCond .eq 16, 3) := by decide +kernel
theorem dL_law_395 : decode cL_law 395 = .ok (.aload_n 1, 1) := by decide +kernel
theorem dL_law_396 : decode cL_law 396 = .ok (.iload 7, 2) := by decide +kernel
theorem dL_law_398 : decode cL_law 398 = .ok (.invokestatic 65, 3) := by decide +kernel
theorem dL_law_401 : decode cL_law 401 = .ok (.istore_n 2, 1) := by decide +kernel
theorem dL_law_402 : decode cL_law 402 = .ok (.iinc 7 1, 3) := by decide +kernel
theorem dL_law_405 : decode cL_law 405 = .ok (.goto (-24), 3) := by decide +kernel
theorem dL_law_408 : decode cL_law 408 = .ok (.iinc 4 1, 3) := by decide +kernel
theorem dL_law_411 : decode cL_law 411 = .ok (.goto (-368), 3) := by decide +kernel
theorem dL_law_414 : decode cL_law 414 = .ok (.aload_n 1, 1) := by decide +kernel
theorem dL_law_415 : decode cL_law 415 = .ok (.bipush 6, 2) := by decide +kernel
theorem dL_law_417 : decode cL_law 417 = .ok (.invokevirtual 29, 3) := by decide +kernel
theorem dL_law_420 : decode cL_law 420 = .ok (.istore 4, 2) := by decide +kernel
theorem dL_law_422 : decode cL_law 422 = .ok (.iload_n 2, 1) := by decide +kernel
theorem dL_law_423 : decode cL_law 423 = .ok (.ifCond .eq 91, 3) := by decide +kernel
theorem dL_law_426 : decode cL_law 426 = .ok (.aload_n 1, 1) := by decide +kernel
theorem dL_law_427 : decode cL_law 427 = .ok (.invokevirtual 81, 3) := by decide +kernel
theorem dL_law_430 : decode cL_law 430 = .ok (.iload 4, 2) := by decide +kernel
theorem dL_law_432 : decode cL_law 432 = .ok (.iconst 1, 1) := by decide +kernel
theorem dL_law_433 : decode cL_law 433 = .ok (.isub, 1) := by decide +kernel
theorem dL_law_434 : decode cL_law 434 = .ok (.if_icmp .ne 80, 3) := by decide +kernel
theorem dL_law_437 : decode cL_law 437 = .ok (.aload_n 1, 1) := by decide +kernel
theorem dL_law_438 : decode cL_law 438 = .ok (.bipush 8, 2) := by decide +kernel
theorem dL_law_440 : decode cL_law 440 = .ok (.iconst 0, 1) := by decide +kernel
theorem dL_law_441 : decode cL_law 441 = .ok (.invokevirtual 20, 3) := by decide +kernel
theorem dL_law_444 : decode cL_law 444 = .ok (.ldc 76, 2) := by decide +kernel
theorem dL_law_446 : decode cL_law 446 = .ok (.if_icmp .ne 68, 3) := by decide +kernel
theorem dL_law_449 : decode cL_law 449 = .ok (.aload_n 1, 1) := by decide +kernel
theorem dL_law_450 : decode cL_law 450 = .ok (.iconst 3, 1) := by decide +kernel
theorem dL_law_451 : decode cL_law 451 = .ok (.iconst 0, 1) := by decide +kernel
theorem dL_law_452 : decode cL_law 452 = .ok (.invokevirtual 87, 3) := by decide +kernel
theorem dL_law_455 : decode cL_law 455 = .ok (.ldc 76, 2) := by decide +kernel
theorem dL_law_457 : decode cL_law 457 = .ok (.if_icmp .ne 57, 3) := by decide +kernel
theorem dL_law_460 : decode cL_law 460 = .ok (.aload_n 1, 1) := by decide +kernel
theorem dL_law_461 : decode cL_law 461 = .ok (.bipush 10, 2) := by decide +kernel
theorem dL_law_463 : decode cL_law 463 = .ok (.iconst 1, 1) := by decide +kernel
theorem dL_law_464 : decode cL_law 464 = .ok (.invokevirtual 90, 3) := by decide +kernel
theorem dL_law_467 : decode cL_law 467 = .ok (.ldc 76, 2) := by decide +kernel
theorem dL_law_469 : decode cL_law 469 = .ok (.if_icmp .ne 45, 3) := by decide +kernel
theorem dL_law_472 : decode cL_law 472 = .ok (.aload_n 1, 1) := by decide +kernel
theorem dL_law_473 : decode cL_law 473 = .ok (.iconst 5, 1) := by decide +kernel
theorem dL_law_474 : decode cL_law 474 = .ok (.iconst 0, 1) := by decide +kernel
theorem dL_law_475 : decode cL_law 475 = .ok (.invokevirtual 33, 3) := by decide +kernel
theorem dL_law_478 : decode cL_law 478 = .ok (.ldc 76, 2) := by decide +kernel
theorem dL_law_480 : decode cL_law 480 = .ok (.if_icmp .ne 34, 3) := by decide +kernel
theorem dL_law_483 : decode cL_law 483 = .ok (.aload_n 1, 1) := by decide +kernel
theorem dL_law_484 : decode cL_law 484 = .ok (.iconst 0, 1) := by decide +kernel
theorem dL_law_485 : decode cL_law 485 = .ok (.iconst 0, 1) := by decide +kernel
theorem dL_law_486 : decode cL_law 486 = .ok (.sipush 20001, 3) := by decide +kernel
theorem dL_law_489 : decode cL_law 489 = .ok (.invokevirtual 62, 3) := by decide +kernel
theorem dL_law_492 : decode cL_law 492 = .ok (.ldc 76, 2) := by decide +kernel
theorem dL_law_494 : decode cL_law 494 = .ok (.if_icmp .ne 20, 3) := by decide +kernel
theorem dL_law_497 : decode cL_law 497 = .ok (.aload_n 1, 1) := by decide +kernel
theorem dL_law_498 : decode cL_law 498 = .ok (.bipush 6, 2) := by decide +kernel
theorem dL_law_500 : decode cL_law 500 = .ok (.invokevirtual 29, 3) := by decide +kernel
theorem dL_law_503 : decode cL_law 503 = .ok (.iload 4, 2) := by decide +kernel
theorem dL_law_505 : decode cL_law 505 = .ok (.iconst 1, 1) := by decide +kernel
theorem dL_law_506 : decode cL_law 506 = .ok (.isub, 1) := by decide +kernel
theorem dL_law_507 : decode cL_law 507 = .ok (.if_icmp .ne 7, 3) := by decide +kernel
theorem dL_law_510 : decode cL_law 510 = .ok (.iconst 1, 1) := by decide +kernel
theorem dL_law_511 : decode cL_law 511 = .ok (.goto 4, 3) := by decide +kernel
theorem dL_law_514 : decode cL_law 514 = .ok (.iconst 0, 1) := by decide +kernel
theorem dL_law_515 : decode cL_law 515 = .ok (.ireturn, 1) := by decide +kernel
