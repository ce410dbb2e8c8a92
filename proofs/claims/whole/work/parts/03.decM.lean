theorem dX8_init_0 : decode cX8_init 0 = .ok (.aload_n 0, 1) := by decide +kernel
theorem dX8_init_1 : decode cX8_init 1 = .ok (.invokespecial 1, 3) := by decide +kernel
theorem dX8_init_4 : decode cX8_init 4 = .ok (.aload_n 0, 1) := by decide +kernel
theorem dX8_init_5 : decode cX8_init 5 = .ok (.iconst 3, 1) := by decide +kernel
theorem dX8_init_6 : decode cX8_init 6 = .ok (.newarray .int, 2) := by decide +kernel
theorem dX8_init_8 : decode cX8_init 8 = .ok (.putfield 7, 3) := by decide +kernel
theorem dX8_init_11 : decode cX8_init 11 = .ok (.aload_n 0, 1) := by decide +kernel
theorem dX8_init_12 : decode cX8_init 12 = .ok (.sipush 240, 3) := by decide +kernel
theorem dX8_init_15 : decode cX8_init 15 = .ok (.newarray .int, 2) := by decide +kernel
theorem dX8_init_17 : decode cX8_init 17 = .ok (.putfield 13, 3) := by decide +kernel
theorem dX8_init_20 : decode cX8_init 20 = .ok (.aload_n 0, 1) := by decide +kernel
theorem dX8_init_21 : decode cX8_init 21 = .ok (.bipush 66, 2) := by decide +kernel
theorem dX8_init_23 : decode cX8_init 23 = .ok (.newarray .int, 2) := by decide +kernel
theorem dX8_init_25 : decode cX8_init 25 = .ok (.putfield 16, 3) := by decide +kernel
theorem dX8_init_28 : decode cX8_init 28 = .ok (.aload_n 0, 1) := by decide +kernel
theorem dX8_init_29 : decode cX8_init 29 = .ok (.iconst 2, 1) := by decide +kernel
theorem dX8_init_30 : decode cX8_init 30 = .ok (.newarray .int, 2) := by decide +kernel
theorem dX8_init_32 : decode cX8_init 32 = .ok (.putfield 19, 3) := by decide +kernel
theorem dX8_init_35 : decode cX8_init 35 = .ok (.aload_n 0, 1) := by decide +kernel
theorem dX8_init_36 : decode cX8_init 36 = .ok (.bipush 66, 2) := by decide +kernel
theorem dX8_init_38 : decode cX8_init 38 = .ok (.newarray .int, 2) := by decide +kernel
theorem dX8_init_40 : decode cX8_init 40 = .ok (.putfield 22, 3) := by decide +kernel
theorem dX8_init_43 : decode cX8_init 43 = .ok (.aload_n 0, 1) := by decide +kernel
theorem dX8_init_44 : decode cX8_init 44 = .ok (.bipush 10, 2) := by decide +kernel
theorem dX8_init_46 : decode cX8_init 46 = .ok (.newarray .int, 2) := by decide +kernel
theorem dX8_init_48 : decode cX8_init 48 = .ok (.putfield 25, 3) := by decide +kernel
theorem dX8_init_51 : decode cX8_init 51 = .ok (.aload_n 0, 1) := by decide +kernel
theorem dX8_init_52 : decode cX8_init 52 = .ok (.sipush 1024, 3) := by decide +kernel
theorem dX8_init_55 : decode cX8_init 55 = .ok (.newarray .int, 2) := by decide +kernel
theorem dX8_init_57 : decode cX8_init 57 = .ok (.putfield 28, 3) := by decide +kernel
theorem dX8_init_60 : decode cX8_init 60 = .ok (.aload_n 0, 1) := by decide +kernel
theorem dX8_init_61 : decode cX8_init 61 = .ok (.sipush 1024, 3) := by decide +kernel
theorem dX8_init_64 : decode cX8_init 64 = .ok (.newarray .int, 2) := by decide +kernel
theorem dX8_init_66 : decode cX8_init 66 = .ok (.putfield 31, 3) := by decide +kernel
theorem dX8_init_69 : decode cX8_init 69 = .ok (.aload_n 0, 1) := by decide +kernel
theorem dX8_init_70 : decode cX8_init 70 = .ok (.sipush 1024, 3) := by decide +kernel
theorem dX8_init_73 : decode cX8_init 73 = .ok (.newarray .int, 2) := by decide +kernel
theorem dX8_init_75 : decode cX8_init 75 = .ok (.putfield 34, 3) := by decide +kernel
theorem dX8_init_78 : decode cX8_init 78 = .ok (.aload_n 0, 1) := by decide +kernel
theorem dX8_init_79 : decode cX8_init 79 = .ok (.bipush 8, 2) := by decide +kernel
theorem dX8_init_81 : decode cX8_init 81 = .ok (.newarray .int, 2) := by decide +kernel
theorem dX8_init_83 : decode cX8_init 83 = .ok (.putfield 37, 3) := by decide +kernel
theorem dX8_init_86 : decode cX8_init 86 = .ok (.aload_n 0, 1) := by decide +kernel
theorem dX8_init_87 : decode cX8_init 87 = .ok (.bipush 8, 2) := by decide +kernel
theorem dX8_init_89 : decode cX8_init 89 = .ok (.newarray .int, 2) := by decide +kernel
theorem dX8_init_91 : decode cX8_init 91 = .ok (.putfield 40, 3) := by decide +kernel
theorem dX8_init_94 : decode cX8_init 94 = .ok (.aload_n 0, 1) := by decide +kernel
theorem dX8_init_95 : decode cX8_init 95 = .ok (.iconst 4, 1) := by decide +kernel
theorem dX8_init_96 : decode cX8_init 96 = .ok (.newarray .boolean, 2) := by decide +kernel
theorem dX8_init_98 : decode cX8_init 98 = .ok (.putfield 43, 3) := by decide +kernel
theorem dX8_init_101 : decode cX8_init 101 = .ok (.aload_n 0, 1) := by decide +kernel
theorem dX8_init_102 : decode cX8_init 102 = .ok (.iconst 4, 1) := by decide +kernel
theorem dX8_init_103 : decode cX8_init 103 = .ok (.newarray .int, 2) := by decide +kernel
theorem dX8_init_105 : decode cX8_init 105 = .ok (.putfield 47, 3) := by decide +kernel
theorem dX8_init_108 : decode cX8_init 108 = .ok (.aload_n 0, 1) := by decide +kernel
theorem dX8_init_109 : decode cX8_init 109 = .ok (.iconst 4, 1) := by decide +kernel
theorem dX8_init_110 : decode cX8_init 110 = .ok (.newarray .int, 2) := by decide +kernel
theorem dX8_init_112 : decode cX8_init 112 = .ok (.putfield 50, 3) := by decide +kernel
theorem dX8_init_115 : decode cX8_init 115 = .ok (.aload_n 0, 1) := by decide +kernel
theorem dX8_init_116 : decode cX8_init 116 = .ok (.sipush 192, 3) := by decide +kernel
theorem dX8_init_119 : decode cX8_init 119 = .ok (.newarray .int, 2) := by decide +kernel
theorem dX8_init_121 : decode cX8_init 121 = .ok (.putfield 53, 3) := by decide +kernel
theorem dX8_init_124 : decode cX8_init 124 = .ok (.aload_n 0, 1) := by decide +kernel
theorem dX8_init_125 : decode cX8_init 125 = .ok (.bipush 48, 2) := by decide +kernel
theorem dX8_init_127 : decode cX8_init 127 = .ok (.newarray .int, 2) := by decide +kernel
theorem dX8_init_129 : decode cX8_init 129 = .ok (.putfield 56, 3) := by decide +kernel
theorem dX8_init_132 : decode cX8_init 132 = .ok (.aload_n 0, 1) := by decide +kernel
theorem dX8_init_133 : decode cX8_init 133 = .ok (.bipush 9, 2) := by decide +kernel
theorem dX8_init_135 : decode cX8_init 135 = .ok (.putfield 59, 3) := by decide +kernel
theorem dX8_init_138 : decode cX8_init 138 = .ok (.aload_n 0, 1) := by decide +kernel
theorem dX8_init_139 : decode cX8_init 139 = .ok (.iconst 5, 1) := by decide +kernel
theorem dX8_init_140 : decode cX8_init 140 = .ok (.putfield 63, 3) := by decide +kernel
theorem dX8_init_143 : decode cX8_init 143 = .ok (.iconst 0, 1) := by decide +kernel
theorem dX8_init_144 : decode cX8_init 144 = .ok (.istore_n 1, 1) := by decide +kernel
theorem dX8_init_145 : decode cX8_init 145 = .ok (.iload_n 1, 1) := by decide +kernel
theorem dX8_init_146 : decode cX8_init 146 = .ok (.bipush 10, 2) := by decide +kernel
theorem dX8_init_148 : decode cX8_init 148 = .ok (.if_icmp .ge 16, 3) := by decide +kernel
theorem dX8_init_151 : decode cX8_init 151 = .ok (.aload_n 0, 1) := by decide +kernel
theorem dX8_init_152 : decode cX8_init 152 = .ok (.getfield 25, 3) := by decide +kernel
theorem dX8_init_155 : decode cX8_init 155 = .ok (.iload_n 1, 1) := by decide +kernel
theorem dX8_init_156 : decode cX8_init 156 = .ok (.iconst 1, 1) := by decide +kernel
theorem dX8_init_157 : decode cX8_init 157 = .ok (.iastore, 1) := by decide +kernel
theorem dX8_init_158 : decode cX8_init 158 = .ok (.iinc 1 1, 3) := by decide +kernel
theorem dX8_init_161 : decode cX8_init 161 = .ok (.goto (-16), 3) := by decide +kernel
theorem dX8_init_164 : decode cX8_init 164 = .ok (.return_, 1) := by decide +kernel
theorem dX8_in_0 : decode cX8_in 0 = .ok (.iload_n 0, 1) := by decide +kernel
theorem dX8_in_1 : decode cX8_in 1 = .ok (.iload_n 1, 1) := by decide +kernel
theorem dX8_in_2 : decode cX8_in 2 = .ok (.if_icmp .lt 12, 3) := by decide +kernel
theorem dX8_in_5 : decode cX8_in 5 = .ok (.iload_n 0, 1) := by decide +kernel
theorem dX8_in_6 : decode cX8_in 6 = .ok (.iload_n 2, 1) := by decide +kernel
theorem dX8_in_7 : decode cX8_in 7 = .ok (.if_icmp .gt 7, 3) := by decide +kernel
theorem dX8_in_10 : decode cX8_in 10 = .ok (.iconst 1, 1) := by decide +kernel
theorem dX8_in_11 : decode cX8_in 11 = .ok (.goto 4, 3) := by decide +kernel
theorem dX8_in_14 : decode cX8_in 14 = .ok (.iconst 0, 1) := by decide +kernel
theorem dX8_in_15 : decode cX8_in 15 = .ok (.ireturn, 1) := by decide +kernel
theorem dX8_isIn_0 : decode cX8_isIn 0 = .ok (.iload_n 0, 1) := by decide +kernel
theorem dX8_isIn_1 : decode cX8_isIn 1 = .ok (.iload_n 1, 1) := by decide +kernel
theorem dX8_isIn_2 : decode cX8_isIn 2 = .ok (.ishr, 1) := by decide +kernel
theorem dX8_isIn_3 : decode cX8_isIn 3 = .ok (.iconst 1, 1) := by decide +kernel
theorem dX8_isIn_4 : decode cX8_isIn 4 = .ok (.iand, 1) := by decide +kernel
theorem dX8_isIn_5 : decode cX8_isIn 5 = .ok (.iconst 1, 1) := by decide +kernel
theorem dX8_isIn_6 : decode cX8_isIn 6 = .ok (.if_icmp .ne 7, 3) := by decide +kernel
theorem dX8_isIn_9 : decode cX8_isIn 9 = .ok (.iconst 1, 1) := by decide +kernel
theorem dX8_isIn_10 : decode cX8_isIn 10 = .ok (.goto 4, 3) := by decide +kernel
theorem dX8_isIn_13 : decode cX8_isIn 13 = .ok (.iconst 0, 1) := by decide +kernel
theorem dX8_isIn_14 : decode cX8_isIn 14 = .ok (.ireturn, 1) := by decide +kernel
theorem dX8_ones_0 : decode cX8_ones 0 = .ok (.iconst 0, 1) := by decide +kernel
theorem dX8_ones_1 : decode cX8_ones 1 = .ok (.istore_n 1, 1) := by decide +kernel
theorem dX8_ones_2 : decode cX8_ones 2 = .ok (.iconst 0, 1) := by decide +kernel
theorem dX8_ones_3 : decode cX8_ones 3 = .ok (.istore_n 2, 1) := by decide +kernel
theorem dX8_ones_4 : decode cX8_ones 4 = .ok (.iload_n 2, 1) := by decide +kernel
theorem dX8_ones_5 : decode cX8_ones 5 = .ok (.bipush 10, 2) := by decide +kernel
theorem dX8_ones_7 : decode cX8_ones 7 = .ok (.if_icmp .ge 17, 3) := by decide +kernel
theorem dX8_ones_10 : decode cX8_ones 10 = .ok (.iload_n 1, 1) := by decide +kernel
theorem dX8_ones_11 : decode cX8_ones 11 = .ok (.iload_n 0, 1) := by decide +kernel
theorem dX8_ones_12 : decode cX8_ones 12 = .ok (.iload_n 2, 1) := by decide +kernel
theorem dX8_ones_13 : decode cX8_ones 13 = .ok (.ishr, 1) := by decide +kernel
theorem dX8_ones_14 : decode cX8_ones 14 = .ok (.iconst 1, 1) := by decide +kernel
theorem dX8_ones_15 : decode cX8_ones 15 = .ok (.iand, 1) := by decide +kernel
theorem dX8_ones_16 : decode cX8_ones 16 = .ok (.iadd, 1) := by decide +kernel
theorem dX8_ones_17 : decode cX8_ones 17 = .ok (.istore_n 1, 1) := by decide +kernel
theorem dX8_ones_18 : decode cX8_ones 18 = .ok (.iinc 2 1, 3) := by decide +kernel
theorem dX8_ones_21 : decode cX8_ones 21 = .ok (.goto (-17), 3) := by decide +kernel
theorem dX8_ones_24 : decode cX8_ones 24 = .ok (.iload_n 1, 1) := by decide +kernel
theorem dX8_ones_25 : decode cX8_ones 25 = .ok (.ireturn, 1) := by decide +kernel
theorem dX8_isText_0 : decode cX8_isText 0 = .ok (.iload_n 0, 1) := by decide +kernel
theorem dX8_isText_1 : decode cX8_isText 1 = .ok (.iconst 0, 1) := by decide +kernel
theorem dX8_isText_2 : decode cX8_isText 2 = .ok (.iconst 2, 1) := by decide +kernel
theorem dX8_isText_3 : decode cX8_isText 3 = .ok (.invokestatic 66, 3) := by decide +kernel
theorem dX8_isText_6 : decode cX8_isText 6 = .ok (.ireturn, 1) := by decide +kernel
theorem dX8_isTen_0 : decode cX8_isTen 0 = .ok (.iload_n 0, 1) := by decide +kernel
theorem dX8_isTen_1 : decode cX8_isTen 1 = .ok (.iconst 0, 1) := by decide +kernel
theorem dX8_isTen_2 : decode cX8_isTen 2 = .ok (.bipush 9, 2) := by decide +kernel
theorem dX8_isTen_4 : decode cX8_isTen 4 = .ok (.invokestatic 66, 3) := by decide +kernel
theorem dX8_isTen_7 : decode cX8_isTen 7 = .ok (.ireturn, 1) := by decide +kernel
theorem dX8_isPerson_0 : decode cX8_isPerson 0 = .ok (.iload_n 0, 1) := by decide +kernel
theorem dX8_isPerson_1 : decode cX8_isPerson 1 = .ok (.iconst 0, 1) := by decide +kernel
theorem dX8_isPerson_2 : decode cX8_isPerson 2 = .ok (.iconst 5, 1) := by decide +kernel
theorem dX8_isPerson_3 : decode cX8_isPerson 3 = .ok (.invokestatic 66, 3) := by decide +kernel
theorem dX8_isPerson_6 : decode cX8_isPerson 6 = .ok (.ireturn, 1) := by decide +kernel
theorem dX8_isDay_0 : decode cX8_isDay 0 = .ok (.iload_n 0, 1) := by decide +kernel
theorem dX8_isDay_1 : decode cX8_isDay 1 = .ok (.iconst 0, 1) := by decide +kernel
theorem dX8_isDay_2 : decode cX8_isDay 2 = .ok (.bipush 99, 2) := by decide +kernel
theorem dX8_isDay_4 : decode cX8_isDay 4 = .ok (.invokestatic 66, 3) := by decide +kernel
theorem dX8_isDay_7 : decode cX8_isDay 7 = .ok (.ireturn, 1) := by decide +kernel
theorem dX8_isRow_0 : decode cX8_isRow 0 = .ok (.iload_n 0, 1) := by decide +kernel
theorem dX8_isRow_1 : decode cX8_isRow 1 = .ok (.iconst 0, 1) := by decide +kernel
theorem dX8_isRow_2 : decode cX8_isRow 2 = .ok (.sipush 1023, 3) := by decide +kernel
theorem dX8_isRow_5 : decode cX8_isRow 5 = .ok (.invokestatic 66, 3) := by decide +kernel
theorem dX8_isRow_8 : decode cX8_isRow 8 = .ok (.ireturn, 1) := by decide +kernel
theorem dX8_type_0 : decode cX8_type 0 = .ok (.iload_n 1, 1) := by decide +kernel
theorem dX8_type_1 : decode cX8_type 1 = .ok (.invokestatic 70, 3) := by decide +kernel
theorem dX8_type_4 : decode cX8_type 4 = .ok (.ifCond .eq 14, 3) := by decide +kernel
theorem dX8_type_7 : decode cX8_type 7 = .ok (.iload_n 2, 1) := by decide +kernel
theorem dX8_type_8 : decode cX8_type 8 = .ok (.iconst 0, 1) := by decide +kernel
theorem dX8_type_9 : decode cX8_type 9 = .ok (.sipush 255, 3) := by decide +kernel
theorem dX8_type_12 : decode cX8_type 12 = .ok (.invokestatic 66, 3) := by decide +kernel
theorem dX8_type_15 : decode cX8_type 15 = .ok (.ifCond .ne 6, 3) := by decide +kernel
theorem dX8_type_18 : decode cX8_type 18 = .ok (.bipush (-2), 2) := by decide +kernel
theorem dX8_type_20 : decode cX8_type 20 = .ok (.ireturn, 1) := by decide +kernel
theorem dX8_type_21 : decode cX8_type 21 = .ok (.aload_n 0, 1) := by decide +kernel
theorem dX8_type_22 : decode cX8_type 22 = .ok (.getfield 7, 3) := by decide +kernel
theorem dX8_type_25 : decode cX8_type 25 = .ok (.iload_n 1, 1) := by decide +kernel
theorem dX8_type_26 : decode cX8_type 26 = .ok (.iaload, 1) := by decide +kernel
theorem dX8_type_27 : decode cX8_type 27 = .ok (.iload_n 1, 1) := by decide +kernel
theorem dX8_type_28 : decode cX8_type 28 = .ok (.ifCond .ne 8, 3) := by decide +kernel
theorem dX8_type_31 : decode cX8_type 31 = .ok (.bipush 80, 2) := by decide +kernel
theorem dX8_type_33 : decode cX8_type 33 = .ok (.goto 5, 3) := by decide +kernel
theorem dX8_type_36 : decode cX8_type 36 = .ok (.bipush 60, 2) := by decide +kernel
theorem dX8_type_38 : decode cX8_type 38 = .ok (.if_icmp .ne 6, 3) := by decide +kernel
theorem dX8_type_41 : decode cX8_type 41 = .ok (.bipush (-4), 2) := by decide +kernel
theorem dX8_type_43 : decode cX8_type 43 = .ok (.ireturn, 1) := by decide +kernel
theorem dX8_type_44 : decode cX8_type 44 = .ok (.aload_n 0, 1) := by decide +kernel
theorem dX8_type_45 : decode cX8_type 45 = .ok (.getfield 13, 3) := by decide +kernel
theorem dX8_type_48 : decode cX8_type 48 = .ok (.bipush 80, 2) := by decide +kernel
theorem dX8_type_50 : decode cX8_type 50 = .ok (.iload_n 1, 1) := by decide +kernel
theorem dX8_type_51 : decode cX8_type 51 = .ok (.imul, 1) := by decide +kernel
theorem dX8_type_52 : decode cX8_type 52 = .ok (.aload_n 0, 1) := by decide +kernel
theorem dX8_type_53 : decode cX8_type 53 = .ok (.getfield 7, 3) := by decide +kernel
theorem dX8_type_56 : decode cX8_type 56 = .ok (.iload_n 1, 1) := by decide +kernel
theorem dX8_type_57 : decode cX8_type 57 = .ok (.iaload, 1) := by decide +kernel
theorem dX8_type_58 : decode cX8_type 58 = .ok (.iadd, 1) := by decide +kernel
theorem dX8_type_59 : decode cX8_type 59 = .ok (.iload_n 2, 1) := by decide +kernel
theorem dX8_type_60 : decode cX8_type 60 = .ok (.iastore, 1) := by decide +kernel
theorem dX8_type_61 : decode cX8_type 61 = .ok (.aload_n 0, 1) := by decide +kernel
theorem dX8_type_62 : decode cX8_type 62 = .ok (.getfield 7, 3) := by decide +kernel
theorem dX8_type_65 : decode cX8_type 65 = .ok (.iload_n 1, 1) := by decide +kernel
theorem dX8_type_66 : decode cX8_type 66 = .ok (.dup2, 1) := by decide +kernel
theorem dX8_type_67 : decode cX8_type 67 = .ok (.iaload, 1) := by decide +kernel
theorem dX8_type_68 : decode cX8_type 68 = .ok (.iconst 1, 1) := by decide +kernel
theorem dX8_type_69 : decode cX8_type 69 = .ok (.iadd, 1) := by decide +kernel
theorem dX8_type_70 : decode cX8_type 70 = .ok (.iastore, 1) := by decide +kernel
theorem dX8_type_71 : decode cX8_type 71 = .ok (.aload_n 0, 1) := by decide +kernel
theorem dX8_type_72 : decode cX8_type 72 = .ok (.getfield 7, 3) := by decide +kernel
theorem dX8_type_75 : decode cX8_type 75 = .ok (.iload_n 1, 1) := by decide +kernel
theorem dX8_type_76 : decode cX8_type 76 = .ok (.iaload, 1) := by decide +kernel
theorem dX8_type_77 : decode cX8_type 77 = .ok (.ireturn, 1) := by decide +kernel
theorem dX8_wipe_0 : decode cX8_wipe 0 = .ok (.iload_n 1, 1) := by decide +kernel
theorem dX8_wipe_1 : decode cX8_wipe 1 = .ok (.invokestatic 70, 3) := by decide +kernel
theorem dX8_wipe_4 : decode cX8_wipe 4 = .ok (.ifCond .ne 6, 3) := by decide +kernel
theorem dX8_wipe_7 : decode cX8_wipe 7 = .ok (.bipush (-2), 2) := by decide +kernel
theorem dX8_wipe_9 : decode cX8_wipe 9 = .ok (.ireturn, 1) := by decide +kernel
theorem dX8_wipe_10 : decode cX8_wipe 10 = .ok (.aload_n 0, 1) := by decide +kernel
theorem dX8_wipe_11 : decode cX8_wipe 11 = .ok (.getfield 7, 3) := by decide +kernel
theorem dX8_wipe_14 : decode cX8_wipe 14 = .ok (.iload_n 1, 1) := by decide +kernel
theorem dX8_wipe_15 : decode cX8_wipe 15 = .ok (.iaload, 1) := by decide +kernel
theorem dX8_wipe_16 : decode cX8_wipe 16 = .ok (.istore_n 2, 1) := by decide +kernel
theorem dX8_wipe_17 : decode cX8_wipe 17 = .ok (.aload_n 0, 1) := by decide +kernel
theorem dX8_wipe_18 : decode cX8_wipe 18 = .ok (.getfield 7, 3) := by decide +kernel
theorem dX8_wipe_21 : decode cX8_wipe 21 = .ok (.iload_n 1, 1) := by decide +kernel
theorem dX8_wipe_22 : decode cX8_wipe 22 = .ok (.iconst 0, 1) := by decide +kernel
theorem dX8_wipe_23 : decode cX8_wipe 23 = .ok (.iastore, 1) := by decide +kernel
theorem dX8_wipe_24 : decode cX8_wipe 24 = .ok (.iload_n 2, 1) := by decide +kernel
theorem dX8_wipe_25 : decode cX8_wipe 25 = .ok (.ireturn, 1) := by decide +kernel
theorem dX8_undo_0 : decode cX8_undo 0 = .ok (.iload_n 1, 1) := by decide +kernel
theorem dX8_undo_1 : decode cX8_undo 1 = .ok (.invokestatic 70, 3) := by decide +kernel
theorem dX8_undo_4 : decode cX8_undo 4 = .ok (.ifCond .ne 6, 3) := by decide +kernel
theorem dX8_undo_7 : decode cX8_undo 7 = .ok (.bipush (-2), 2) := by decide +kernel
theorem dX8_undo_9 : decode cX8_undo 9 = .ok (.ireturn, 1) := by decide +kernel
theorem dX8_undo_10 : decode cX8_undo 10 = .ok (.aload_n 0, 1) := by decide +kernel
theorem dX8_undo_11 : decode cX8_undo 11 = .ok (.getfield 7, 3) := by decide +kernel
theorem dX8_undo_14 : decode cX8_undo 14 = .ok (.iload_n 1, 1) := by decide +kernel
theorem dX8_undo_15 : decode cX8_undo 15 = .ok (.iaload, 1) := by decide +kernel
theorem dX8_undo_16 : decode cX8_undo 16 = .ok (.ifCond .ne 6, 3) := by decide +kernel
theorem dX8_undo_19 : decode cX8_undo 19 = .ok (.bipush (-3), 2) := by decide +kernel
theorem dX8_undo_21 : decode cX8_undo 21 = .ok (.ireturn, 1) := by decide +kernel
theorem dX8_undo_22 : decode cX8_undo 22 = .ok (.aload_n 0, 1) := by decide +kernel
theorem dX8_undo_23 : decode cX8_undo 23 = .ok (.getfield 7, 3) := by decide +kernel
theorem dX8_undo_26 : decode cX8_undo 26 = .ok (.iload_n 1, 1) := by decide +kernel
theorem dX8_undo_27 : decode cX8_undo 27 = .ok (.dup2, 1) := by decide +kernel
theorem dX8_undo_28 : decode cX8_undo 28 = .ok (.iaload, 1) := by decide +kernel
theorem dX8_undo_29 : decode cX8_undo 29 = .ok (.iconst 1, 1) := by decide +kernel
theorem dX8_undo_30 : decode cX8_undo 30 = .ok (.isub, 1) := by decide +kernel
theorem dX8_undo_31 : decode cX8_undo 31 = .ok (.iastore, 1) := by decide +kernel
theorem dX8_undo_32 : decode cX8_undo 32 = .ok (.aload_n 0, 1) := by decide +kernel
theorem dX8_undo_33 : decode cX8_undo 33 = .ok (.getfield 7, 3) := by decide +kernel
theorem dX8_undo_36 : decode cX8_undo 36 = .ok (.iload_n 1, 1) := by decide +kernel
theorem dX8_undo_37 : decode cX8_undo 37 = .ok (.iaload, 1) := by decide +kernel
theorem dX8_undo_38 : decode cX8_undo 38 = .ok (.ireturn, 1) := by decide +kernel
theorem dX8_byteAt_0 : decode cX8_byteAt 0 = .ok (.iload_n 2, 1) := by decide +kernel
theorem dX8_byteAt_1 : decode cX8_byteAt 1 = .ok (.aload_n 0, 1) := by decide +kernel
theorem dX8_byteAt_2 : decode cX8_byteAt 2 = .ok (.getfield 7, 3) := by decide +kernel
theorem dX8_byteAt_5 : decode cX8_byteAt 5 = .ok (.iload_n 1, 1) := by decide +kernel
theorem dX8_byteAt_6 : decode cX8_byteAt 6 = .ok (.iaload, 1) := by decide +kernel
theorem dX8_byteAt_7 : decode cX8_byteAt 7 = .ok (.if_icmp .ge 17, 3) := by decide +kernel
theorem dX8_byteAt_10 : decode cX8_byteAt 10 = .ok (.aload_n 0, 1) := by decide +kernel
theorem dX8_byteAt_11 : decode cX8_byteAt 11 = .ok (.getfield 13, 3) := by decide +kernel
theorem dX8_byteAt_14 : decode cX8_byteAt 14 = .ok (.bipush 80, 2) := by decide +kernel
theorem dX8_byteAt_16 : decode cX8_byteAt 16 = .ok (.iload_n 1, 1) := by decide +kernel
theorem dX8_byteAt_17 : decode cX8_byteAt 17 = .ok (.imul, 1) := by decide +kernel
theorem dX8_byteAt_18 : decode cX8_byteAt 18 = .ok (.iload_n 2, 1) := by decide +kernel
theorem dX8_byteAt_19 : decode cX8_byteAt 19 = .ok (.iadd, 1) := by decide +kernel
theorem dX8_byteAt_20 : decode cX8_byteAt 20 = .ok (.iaload, 1) := by decide +kernel
theorem dX8_byteAt_21 : decode cX8_byteAt 21 = .ok (.goto 4, 3) := by decide +kernel
theorem dX8_byteAt_24 : decode cX8_byteAt 24 = .ok (.iconst (-1), 1) := by decide +kernel
theorem dX8_byteAt_25 : decode cX8_byteAt 25 = .ok (.ireturn, 1) := by decide +kernel
theorem dX8_figureAt_0 : decode cX8_figureAt 0 = .ok (.aload_n 0, 1) := by decide +kernel
theorem dX8_figureAt_1 : decode cX8_figureAt 1 = .ok (.iload_n 1, 1) := by decide +kernel
theorem dX8_figureAt_2 : decode cX8_figureAt 2 = .ok (.iload_n 2, 1) := by decide +kernel
theorem dX8_figureAt_3 : decode cX8_figureAt 3 = .ok (.invokevirtual 74, 3) := by decide +kernel
theorem dX8_figureAt_6 : decode cX8_figureAt 6 = .ok (.bipush 48, 2) := by decide +kernel
theorem dX8_figureAt_8 : decode cX8_figureAt 8 = .ok (.isub, 1) := by decide +kernel
theorem dX8_figureAt_9 : decode cX8_figureAt 9 = .ok (.istore 4, 2) := by decide +kernel
theorem dX8_figureAt_11 : decode cX8_figureAt 11 = .ok (.iload 4, 2) := by decide +kernel
theorem dX8_figureAt_13 : decode cX8_figureAt 13 = .ok (.iconst 0, 1) := by decide +kernel
theorem dX8_figureAt_14 : decode cX8_figureAt 14 = .ok (.iload_n 3, 1) := by decide +kernel
theorem dX8_figureAt_15 : decode cX8_figureAt 15 = .ok (.invokestatic 66, 3) := by decide +kernel
theorem dX8_figureAt_18 : decode cX8_figureAt 18 = .ok (.ifCond .eq 8, 3) := by decide +kernel
theorem dX8_figureAt_21 : decode cX8_figureAt 21 = .ok (.iload 4, 2) := by decide +kernel
theorem dX8_figureAt_23 : decode cX8_figureAt 23 = .ok (.goto 4, 3) := by decide +kernel
theorem dX8_figureAt_26 : decode cX8_figureAt 26 = .ok (.iconst (-1), 1) := by decide +kernel
theorem dX8_figureAt_27 : decode cX8_figureAt 27 = .ok (.ireturn, 1) := by decide +kernel
theorem dX8_whenAt_0 : decode cX8_whenAt 0 = .ok (.aload_n 0, 1) := by decide +kernel
theorem dX8_whenAt_1 : decode cX8_whenAt 1 = .ok (.iconst 0, 1) := by decide +kernel
theorem dX8_whenAt_2 : decode cX8_whenAt 2 = .ok (.iload_n 1, 1) := by decide +kernel
theorem dX8_whenAt_3 : decode cX8_whenAt 3 = .ok (.invokevirtual 74, 3) := by decide +kernel
theorem dX8_whenAt_6 : decode cX8_whenAt 6 = .ok (.istore_n 2, 1) := by decide +kernel
theorem dX8_whenAt_7 : decode cX8_whenAt 7 = .ok (.iload_n 2, 1) := by decide +kernel
theorem dX8_whenAt_8 : decode cX8_whenAt 8 = .ok (.bipush 97, 2) := by decide +kernel
theorem dX8_whenAt_10 : decode cX8_whenAt 10 = .ok (.if_icmp .ne 7, 3) := by decide +kernel
theorem dX8_whenAt_13 : decode cX8_whenAt 13 = .ok (.iconst 0, 1) := by decide +kernel
theorem dX8_whenAt_14 : decode cX8_whenAt 14 = .ok (.goto 44, 3) := by decide +kernel
theorem dX8_whenAt_17 : decode cX8_whenAt 17 = .ok (.iload_n 2, 1) := by decide +kernel
theorem dX8_whenAt_18 : decode cX8_whenAt 18 = .ok (.bipush 101, 2) := by decide +kernel
theorem dX8_whenAt_20 : decode cX8_whenAt 20 = .ok (.if_icmp .ne 7, 3) := by decide +kernel
theorem dX8_whenAt_23 : decode cX8_whenAt 23 = .ok (.iconst 1, 1) := by decide +kernel
theorem dX8_whenAt_24 : decode cX8_whenAt 24 = .ok (.goto 34, 3) := by decide +kernel
theorem dX8_whenAt_27 : decode cX8_whenAt 27 = .ok (.iload_n 2, 1) := by decide +kernel
theorem dX8_whenAt_28 : decode cX8_whenAt 28 = .ok (.bipush 121, 2) := by decide +kernel
theorem dX8_whenAt_30 : decode cX8_whenAt 30 = .ok (.if_icmp .ne 7, 3) := by decide +kernel
theorem dX8_whenAt_33 : decode cX8_whenAt 33 = .ok (.iconst 2, 1) := by decide +kernel
theorem dX8_whenAt_34 : decode cX8_whenAt 34 = .ok (.goto 24, 3) := by decide +kernel
theorem dX8_whenAt_37 : decode cX8_whenAt 37 = .ok (.iload_n 2, 1) := by decide +kernel
theorem dX8_whenAt_38 : decode cX8_whenAt 38 = .ok (.bipush 110, 2) := by decide +kernel
theorem dX8_whenAt_40 : decode cX8_whenAt 40 = .ok (.if_icmp .ne 7, 3) := by decide +kernel
theorem dX8_whenAt_43 : decode cX8_whenAt 43 = .ok (.iconst 3, 1) := by decide +kernel
theorem dX8_whenAt_44 : decode cX8_whenAt 44 = .ok (.goto 14, 3) := by decide +kernel
theorem dX8_whenAt_47 : decode cX8_whenAt 47 = .ok (.iload_n 2, 1) := by decide +kernel
theorem dX8_whenAt_48 : decode cX8_whenAt 48 = .ok (.bipush 115, 2) := by decide +kernel
theorem dX8_whenAt_50 : decode cX8_whenAt 50 = .ok (.if_icmp .ne 7, 3) := by decide +kernel
theorem dX8_whenAt_53 : decode cX8_whenAt 53 = .ok (.iconst 4, 1) := by decide +kernel
theorem dX8_whenAt_54 : decode cX8_whenAt 54 = .ok (.goto 4, 3) := by decide +kernel
theorem dX8_whenAt_57 : decode cX8_whenAt 57 = .ok (.iconst (-1), 1) := by decide +kernel
theorem dX8_whenAt_58 : decode cX8_whenAt 58 = .ok (.ireturn, 1) := by decide +kernel
theorem dX8_readsMatter_0 : decode cX8_readsMatter 0 = .ok (.aload_n 0, 1) := by decide +kernel
theorem dX8_readsMatter_1 : decode cX8_readsMatter 1 = .ok (.iconst 0, 1) := by decide +kernel
theorem dX8_readsMatter_2 : decode cX8_readsMatter 2 = .ok (.iload_n 2, 1) := by decide +kernel
theorem dX8_readsMatter_3 : decode cX8_readsMatter 3 = .ok (.iconst 5, 1) := by decide +kernel
theorem dX8_readsMatter_4 : decode cX8_readsMatter 4 = .ok (.invokevirtual 78, 3) := by decide +kernel
theorem dX8_readsMatter_7 : decode cX8_readsMatter 7 = .ok (.istore_n 3, 1) := by decide +kernel
theorem dX8_readsMatter_8 : decode cX8_readsMatter 8 = .ok (.aload_n 0, 1) := by decide +kernel
theorem dX8_readsMatter_9 : decode cX8_readsMatter 9 = .ok (.iconst 0, 1) := by decide +kernel
theorem dX8_readsMatter_10 : decode cX8_readsMatter 10 = .ok (.iload_n 2, 1) := by decide +kernel
theorem dX8_readsMatter_11 : decode cX8_readsMatter 11 = .ok (.iconst 1, 1) := by decide +kernel
theorem dX8_readsMatter_12 : decode cX8_readsMatter 12 = .ok (.iadd, 1) := by decide +kernel
theorem dX8_readsMatter_13 : decode cX8_readsMatter 13 = .ok (.iconst 5, 1) := by decide +kernel
theorem dX8_readsMatter_14 : decode cX8_readsMatter 14 = .ok (.invokevirtual 78, 3) := by decide +kernel
theorem dX8_readsMatter_17 : decode cX8_readsMatter 17 = .ok (.istore 4, 2) := by decide +kernel
theorem dX8_readsMatter_19 : decode cX8_readsMatter 19 = .ok (.aload_n 0, 1) := by decide +kernel
theorem dX8_readsMatter_20 : decode cX8_readsMatter 20 = .ok (.iconst 0, 1) := by decide +kernel
theorem dX8_readsMatter_21 : decode cX8_readsMatter 21 = .ok (.iload_n 2, 1) := by decide +kernel
theorem dX8_readsMatter_22 : decode cX8_readsMatter 22 = .ok (.iconst 2, 1) := by decide +kernel
theorem dX8_readsMatter_23 : decode cX8_readsMatter 23 = .ok (.iadd, 1) := by decide +kernel
theorem dX8_readsMatter_24 : decode cX8_readsMatter 24 = .ok (.bipush 9, 2) := by decide +kernel
theorem dX8_readsMatter_26 : decode cX8_readsMatter 26 = .ok (.invokevirtual 78, 3) := by decide +kernel
theorem dX8_readsMatter_29 : decode cX8_readsMatter 29 = .ok (.istore 5, 2) := by decide +kernel
theorem dX8_readsMatter_31 : decode cX8_readsMatter 31 = .ok (.aload_n 0, 1) := by decide +kernel
theorem dX8_readsMatter_32 : decode cX8_readsMatter 32 = .ok (.iconst 0, 1) := by decide +kernel
theorem dX8_readsMatter_33 : decode cX8_readsMatter 33 = .ok (.iload_n 2, 1) := by decide +kernel
theorem dX8_readsMatter_34 : decode cX8_readsMatter 34 = .ok (.iconst 3, 1) := by decide +kernel
theorem dX8_readsMatter_35 : decode cX8_readsMatter 35 = .ok (.iadd, 1) := by decide +kernel
theorem dX8_readsMatter_36 : decode cX8_readsMatter 36 = .ok (.bipush 9, 2) := by decide +kernel
theorem dX8_readsMatter_38 : decode cX8_readsMatter 38 = .ok (.invokevirtual 78, 3) := by decide +kernel
theorem dX8_readsMatter_41 : decode cX8_readsMatter 41 = .ok (.istore 6, 2) := by decide +kernel
theorem dX8_readsMatter_43 : decode cX8_readsMatter 43 = .ok (.aload_n 0, 1) := by decide +kernel
theorem dX8_readsMatter_44 : decode cX8_readsMatter 44 = .ok (.iconst 0, 1) := by decide +kernel
theorem dX8_readsMatter_45 : decode cX8_readsMatter 45 = .ok (.iload_n 2, 1) := by decide +kernel
theorem dX8_readsMatter_46 : decode cX8_readsMatter 46 = .ok (.iconst 4, 1) := by decide +kernel
theorem dX8_readsMatter_47 : decode cX8_readsMatter 47 = .ok (.iadd, 1) := by decide +kernel
theorem dX8_readsMatter_48 : decode cX8_readsMatter 48 = .ok (.invokevirtual 74, 3) := by decide +kernel
theorem dX8_readsMatter_51 : decode cX8_readsMatter 51 = .ok (.istore 7, 2) := by decide +kernel
theorem dX8_readsMatter_53 : decode cX8_readsMatter 53 = .ok (.aload_n 0, 1) := by decide +kernel
theorem dX8_readsMatter_54 : decode cX8_readsMatter 54 = .ok (.iload_n 2, 1) := by decide +kernel
theorem dX8_readsMatter_55 : decode cX8_readsMatter 55 = .ok (.iconst 5, 1) := by decide +kernel
theorem dX8_readsMatter_56 : decode cX8_readsMatter 56 = .ok (.iadd, 1) := by decide +kernel
theorem dX8_readsMatter_57 : decode cX8_readsMatter 57 = .ok (.invokevirtual 82, 3) := by decide +kernel
theorem dX8_readsMatter_60 : decode cX8_readsMatter 60 = .ok (.istore 8, 2) := by decide +kernel
theorem dX8_readsMatter_62 : decode cX8_readsMatter 62 = .ok (.aload_n 0, 1) := by decide +kernel
theorem dX8_readsMatter_63 : decode cX8_readsMatter 63 = .ok (.iconst 0, 1) := by decide +kernel
theorem dX8_readsMatter_64 : decode cX8_readsMatter 64 = .ok (.iload_n 2, 1) := by decide +kernel
theorem dX8_readsMatter_65 : decode cX8_readsMatter 65 = .ok (.bipush 6, 2) := by decide +kernel
theorem dX8_readsMatter_67 : decode cX8_readsMatter 67 = .ok (.iadd, 1) := by decide +kernel
theorem dX8_readsMatter_68 : decode cX8_readsMatter 68 = .ok (.bipush 9, 2) := by decide +kernel
theorem dX8_readsMatter_70 : decode cX8_readsMatter 70 = .ok (.invokevirtual 78, 3) := by decide +kernel
theorem dX8_readsMatter_73 : decode cX8_readsMatter 73 = .ok (.istore 9, 2) := by decide +kernel
theorem dX8_readsMatter_75 : decode cX8_readsMatter 75 = .ok (.iload_n 3, 1) := by decide +kernel
theorem dX8_readsMatter_76 : decode cX8_readsMatter 76 = .ok (.iconst (-1), 1) := by decide +kernel
theorem dX8_readsMatter_77 : decode cX8_readsMatter 77 = .ok (.if_icmp .ne 7, 3) := by decide +kernel
theorem dX8_readsMatter_80 : decode cX8_readsMatter 80 = .ok (.iconst 0, 1) := by decide +kernel
theorem dX8_readsMatter_81 : decode cX8_readsMatter 81 = .ok (.goto 86, 3) := by decide +kernel
theorem dX8_readsMatter_84 : decode cX8_readsMatter 84 = .ok (.iload 4, 2) := by decide +kernel
theorem dX8_readsMatter_86 : decode cX8_readsMatter 86 = .ok (.iconst (-1), 1) := by decide +kernel
theorem dX8_readsMatter_87 : decode cX8_readsMatter 87 = .ok (.if_icmp .eq 9, 3) := by decide +kernel
theorem dX8_readsMatter_90 : decode cX8_readsMatter 90 = .ok (.iload 4, 2) := by decide +kernel
theorem dX8_readsMatter_92 : decode cX8_readsMatter 92 = .ok (.iload_n 3, 1) := by decide +kernel
theorem dX8_readsMatter_93 : decode cX8_readsMatter 93 = .ok (.if_icmp .ne 7, 3) := by decide +kernel
theorem dX8_readsMatter_96 : decode cX8_readsMatter 96 = .ok (.iconst 1, 1) := by decide +kernel
theorem dX8_readsMatter_97 : decode cX8_readsMatter 97 = .ok (.goto 70, 3) := by decide +kernel
theorem dX8_readsMatter_100 : decode cX8_readsMatter 100 = .ok (.iload 5, 2) := by decide +kernel
theorem dX8_readsMatter_102 : decode cX8_readsMatter 102 = .ok (.iconst (-1), 1) := by decide +kernel
theorem dX8_readsMatter_103 : decode cX8_readsMatter 103 = .ok (.if_icmp .ne 7, 3) := by decide +kernel
theorem dX8_readsMatter_106 : decode cX8_readsMatter 106 = .ok (.iconst 2, 1) := by decide +kernel
theorem dX8_readsMatter_107 : decode cX8_readsMatter 107 = .ok (.goto 60, 3) := by decide +kernel
theorem dX8_readsMatter_110 : decode cX8_readsMatter 110 = .ok (.iload 6, 2) := by decide +kernel
theorem dX8_readsMatter_112 : decode cX8_readsMatter 112 = .ok (.iconst (-1), 1) := by decide +kernel
theorem dX8_readsMatter_113 : decode cX8_readsMatter 113 = .ok (.if_icmp .ne 7, 3) := by decide +kernel
theorem dX8_readsMatter_116 : decode cX8_readsMatter 116 = .ok (.iconst 3, 1) := by decide +kernel
theorem dX8_readsMatter_117 : decode cX8_readsMatter 117 = .ok (.goto 50, 3) := by decide +kernel
theorem dX8_readsMatter_120 : decode cX8_readsMatter 120 = .ok (.iload 7, 2) := by decide +kernel
theorem dX8_readsMatter_122 : decode cX8_readsMatter 122 = .ok (.bipush 121, 2) := by decide +kernel
theorem dX8_readsMatter_124 : decode cX8_readsMatter 124 = .ok (.if_icmp .eq 14, 3) := by decide +kernel
theorem dX8_readsMatter_127 : decode cX8_readsMatter 127 = .ok (.iload 7, 2) := by decide +kernel
theorem dX8_readsMatter_129 : decode cX8_readsMatter 129 = .ok (.bipush 110, 2) := by decide +kernel
theorem dX8_readsMatter_131 : decode cX8_readsMatter 131 = .ok (.if_icmp .eq 7, 3) := by decide +kernel
theorem dX8_readsMatter_134 : decode cX8_readsMatter 134 = .ok (.iconst 4, 1) := by decide +kernel
theorem dX8_readsMatter_135 : decode cX8_readsMatter 135 = .ok (.goto 32, 3) := by decide +kernel
theorem dX8_readsMatter_138 : decode cX8_readsMatter 138 = .ok (.iload 8, 2) := by decide +kernel
theorem dX8_readsMatter_140 : decode cX8_readsMatter 140 = .ok (.iconst (-1), 1) := by decide +kernel
theorem dX8_readsMatter_141 : decode cX8_readsMatter 141 = .ok (.if_icmp .ne 7, 3) := by decide +kernel
theorem dX8_readsMatter_144 : decode cX8_readsMatter 144 = .ok (.iconst 5, 1) := by decide +kernel
theorem dX8_readsMatter_145 : decode cX8_readsMatter 145 = .ok (.goto 22, 3) := by decide +kernel
theorem dX8_readsMatter_148 : decode cX8_readsMatter 148 = .ok (.iload 8, 2) := by decide +kernel
theorem dX8_readsMatter_150 : decode cX8_readsMatter 150 = .ok (.iconst 1, 1) := by decide +kernel
theorem dX8_readsMatter_151 : decode cX8_readsMatter 151 = .ok (.if_icmp .le 14, 3) := by decide +kernel
theorem dX8_readsMatter_154 : decode cX8_readsMatter 154 = .ok (.iload 9, 2) := by decide +kernel
theorem dX8_readsMatter_156 : decode cX8_readsMatter 156 = .ok (.iconst (-1), 1) := by decide +kernel
theorem dX8_readsMatter_157 : decode cX8_readsMatter 157 = .ok (.if_icmp .ne 8, 3) := by decide +kernel
theorem dX8_readsMatter_160 : decode cX8_readsMatter 160 = .ok (.bipush 6, 2) := by decide +kernel
theorem dX8_readsMatter_162 : decode cX8_readsMatter 162 = .ok (.goto 5, 3) := by decide +kernel
theorem dX8_readsMatter_165 : decode cX8_readsMatter 165 = .ok (.bipush 7, 2) := by decide +kernel
theorem dX8_readsMatter_167 : decode cX8_readsMatter 167 = .ok (.istore 10, 2) := by decide +kernel
theorem dX8_readsMatter_169 : decode cX8_readsMatter 169 = .ok (.iload 10, 2) := by decide +kernel
theorem dX8_readsMatter_171 : decode cX8_readsMatter 171 = .ok (.bipush 7, 2) := by decide +kernel
theorem dX8_readsMatter_173 : decode cX8_readsMatter 173 = .ok (.if_icmp .ge 11, 3) := by decide +kernel
theorem dX8_readsMatter_176 : decode cX8_readsMatter 176 = .ok (.iload_n 2, 1) := by decide +kernel
theorem dX8_readsMatter_177 : decode cX8_readsMatter 177 = .ok (.ineg, 1) := by decide +kernel
theorem dX8_readsMatter_178 : decode cX8_readsMatter 178 = .ok (.iload 10, 2) := by decide +kernel
theorem dX8_readsMatter_180 : decode cX8_readsMatter 180 = .ok (.isub, 1) := by decide +kernel
theorem dX8_readsMatter_181 : decode cX8_readsMatter 181 = .ok (.iconst 1, 1) := by decide +kernel
theorem dX8_readsMatter_182 : decode cX8_readsMatter 182 = .ok (.isub, 1) := by decide +kernel
theorem dX8_readsMatter_183 : decode cX8_readsMatter 183 = .ok (.ireturn, 1) := by decide +kernel
theorem dX8_readsMatter_184 : decode cX8_readsMatter 184 = .ok (.aload_n 0, 1) := by decide +kernel
theorem dX8_readsMatter_185 : decode cX8_readsMatter 185 = .ok (.getfield 16, 3) := by decide +kernel
theorem dX8_readsMatter_188 : decode cX8_readsMatter 188 = .ok (.bipush 6, 2) := by decide +kernel
theorem dX8_readsMatter_190 : decode cX8_readsMatter 190 = .ok (.iload_n 1, 1) := by decide +kernel
theorem dX8_readsMatter_191 : decode cX8_readsMatter 191 = .ok (.imul, 1) := by decide +kernel
theorem dX8_readsMatter_192 : decode cX8_readsMatter 192 = .ok (.iload_n 3, 1) := by decide +kernel
theorem dX8_readsMatter_193 : decode cX8_readsMatter 193 = .ok (.iastore, 1) := by decide +kernel
theorem dX8_readsMatter_194 : decode cX8_readsMatter 194 = .ok (.aload_n 0, 1) := by decide +kernel
theorem dX8_readsMatter_195 : decode cX8_readsMatter 195 = .ok (.getfield 16, 3) := by decide +kernel
theorem dX8_readsMatter_198 : decode cX8_readsMatter 198 = .ok (.bipush 6, 2) := by decide +kernel
theorem dX8_readsMatter_200 : decode cX8_readsMatter 200 = .ok (.iload_n 1, 1) := by decide +kernel
theorem dX8_readsMatter_201 : decode cX8_readsMatter 201 = .ok (.imul, 1) := by decide +kernel
theorem dX8_readsMatter_202 : decode cX8_readsMatter 202 = .ok (.iconst 1, 1) := by decide +kernel
theorem dX8_readsMatter_203 : decode cX8_readsMatter 203 = .ok (.iadd, 1) := by decide +kernel
theorem dX8_readsMatter_204 : decode cX8_readsMatter 204 = .ok (.iload 4, 2) := by decide +kernel
theorem dX8_readsMatter_206 : decode cX8_readsMatter 206 = .ok (.iastore, 1) := by decide +kernel
theorem dX8_readsMatter_207 : decode cX8_readsMatter 207 = .ok (.aload_n 0, 1) := by decide +kernel
theorem dX8_readsMatter_208 : decode cX8_readsMatter 208 = .ok (.getfield 16, 3) := by decide +kernel
theorem dX8_readsMatter_211 : decode cX8_readsMatter 211 = .ok (.bipush 6, 2) := by decide +kernel
theorem dX8_readsMatter_213 : decode cX8_readsMatter 213 = .ok (.iload_n 1, 1) := by decide +kernel
theorem dX8_readsMatter_214 : decode cX8_readsMatter 214 = .ok (.imul, 1) := by decide +kernel
theorem dX8_readsMatter_215 : decode cX8_readsMatter 215 = .ok (.iconst 2, 1) := by decide +kernel
theorem dX8_readsMatter_216 : decode cX8_readsMatter 216 = .ok (.iadd, 1) := by decide +kernel
theorem dX8_readsMatter_217 : decode cX8_readsMatter 217 = .ok (.bipush 10, 2) := by decide +kernel
theorem dX8_readsMatter_219 : decode cX8_readsMatter 219 = .ok (.iload 5, 2) := by decide +kernel
theorem dX8_readsMatter_221 : decode cX8_readsMatter 221 = .ok (.imul, 1) := by decide +kernel
theorem dX8_readsMatter_222 : decode cX8_readsMatter 222 = .ok (.iload 6, 2) := by decide +kernel
theorem dX8_readsMatter_224 : decode cX8_readsMatter 224 = .ok (.iadd, 1) := by decide +kernel
theorem dX8_readsMatter_225 : decode cX8_readsMatter 225 = .ok (.iastore, 1) := by decide +kernel
theorem dX8_readsMatter_226 : decode cX8_readsMatter 226 = .ok (.aload_n 0, 1) := by decide +kernel
theorem dX8_readsMatter_227 : decode cX8_readsMatter 227 = .ok (.getfield 16, 3) := by decide +kernel
theorem dX8_readsMatter_230 : decode cX8_readsMatter 230 = .ok (.bipush 6, 2) := by decide +kernel
theorem dX8_readsMatter_232 : decode cX8_readsMatter 232 = .ok (.iload_n 1, 1) := by decide +kernel
theorem dX8_readsMatter_233 : decode cX8_readsMatter 233 = .ok (.imul, 1) := by decide +kernel
theorem dX8_readsMatter_234 : decode cX8_readsMatter 234 = .ok (.iconst 3, 1) := by decide +kernel
theorem dX8_readsMatter_235 : decode cX8_readsMatter 235 = .ok (.iadd, 1) := by decide +kernel
theorem dX8_readsMatter_236 : decode cX8_readsMatter 236 = .ok (.iload 7, 2) := by decide +kernel
theorem dX8_readsMatter_238 : decode cX8_readsMatter 238 = .ok (.bipush 121, 2) := by decide +kernel
theorem dX8_readsMatter_240 : decode cX8_readsMatter 240 = .ok (.if_icmp .ne 7, 3) := by decide +kernel
theorem dX8_readsMatter_243 : decode cX8_readsMatter 243 = .ok (.iconst 1, 1) := by decide +kernel
theorem dX8_readsMatter_244 : decode cX8_readsMatter 244 = .ok (.goto 4, 3) := by decide +kernel
theorem dX8_readsMatter_247 : decode cX8_readsMatter 247 = .ok (.iconst 0, 1) := by decide +kernel
theorem dX8_readsMatter_248 : decode cX8_readsMatter 248 = .ok (.iastore, 1) := by decide +kernel
theorem dX8_readsMatter_249 : decode cX8_readsMatter 249 = .ok (.aload_n 0, 1) := by decide +kernel
theorem dX8_readsMatter_250 : decode cX8_readsMatter 250 = .ok (.getfield 16, 3) := by decide +kernel
theorem dX8_readsMatter_253 : decode cX8_readsMatter 253 = .ok (.bipush 6, 2) := by decide +kernel
theorem dX8_readsMatter_255 : decode cX8_readsMatter 255 = .ok (.iload_n 1, 1) := by decide +kernel
theorem dX8_readsMatter_256 : decode cX8_readsMatter 256 = .ok (.imul, 1) := by decide +kernel
theorem dX8_readsMatter_257 : decode cX8_readsMatter 257 = .ok (.iconst 4, 1) := by decide +kernel
theorem dX8_readsMatter_258 : decode cX8_readsMatter 258 = .ok (.iadd, 1) := by decide +kernel
theorem dX8_readsMatter_259 : decode cX8_readsMatter 259 = .ok (.iload 8, 2) := by decide +kernel
theorem dX8_readsMatter_261 : decode cX8_readsMatter 261 = .ok (.iastore, 1) := by decide +kernel
theorem dX8_readsMatter_262 : decode cX8_readsMatter 262 = .ok (.aload_n 0, 1) := by decide +kernel
theorem dX8_readsMatter_263 : decode cX8_readsMatter 263 = .ok (.getfield 16, 3) := by decide +kernel
theorem dX8_readsMatter_266 : decode cX8_readsMatter 266 = .ok (.bipush 6, 2) := by decide +kernel
theorem dX8_readsMatter_268 : decode cX8_readsMatter 268 = .ok (.iload_n 1, 1) := by decide +kernel
theorem dX8_readsMatter_269 : decode cX8_readsMatter 269 = .ok (.imul, 1) := by decide +kernel
theorem dX8_readsMatter_270 : decode cX8_readsMatter 270 = .ok (.iconst 5, 1) := by decide +kernel
theorem dX8_readsMatter_271 : decode cX8_readsMatter 271 = .ok (.iadd, 1) := by decide +kernel
theorem dX8_readsMatter_272 : decode cX8_readsMatter 272 = .ok (.iload 8, 2) := by decide +kernel
theorem dX8_readsMatter_274 : decode cX8_readsMatter 274 = .ok (.iconst 1, 1) := by decide +kernel
theorem dX8_readsMatter_275 : decode cX8_readsMatter 275 = .ok (.if_icmp .le 8, 3) := by decide +kernel
theorem dX8_readsMatter_278 : decode cX8_readsMatter 278 = .ok (.iload 9, 2) := by decide +kernel
theorem dX8_readsMatter_280 : decode cX8_readsMatter 280 = .ok (.goto 4, 3) := by decide +kernel
theorem dX8_readsMatter_283 : decode cX8_readsMatter 283 = .ok (.iconst (-1), 1) := by decide +kernel
theorem dX8_readsMatter_284 : decode cX8_readsMatter 284 = .ok (.iastore, 1) := by decide +kernel
theorem dX8_readsMatter_285 : decode cX8_readsMatter 285 = .ok (.iload 8, 2) := by decide +kernel
theorem dX8_readsMatter_287 : decode cX8_readsMatter 287 = .ok (.iconst 1, 1) := by decide +kernel
theorem dX8_readsMatter_288 : decode cX8_readsMatter 288 = .ok (.if_icmp .le 8, 3) := by decide +kernel
theorem dX8_readsMatter_291 : decode cX8_readsMatter 291 = .ok (.bipush 7, 2) := by decide +kernel
theorem dX8_readsMatter_293 : decode cX8_readsMatter 293 = .ok (.goto 5, 3) := by decide +kernel
theorem dX8_readsMatter_296 : decode cX8_readsMatter 296 = .ok (.bipush 6, 2) := by decide +kernel
theorem dX8_readsMatter_298 : decode cX8_readsMatter 298 = .ok (.ireturn, 1) := by decide +kernel
theorem dX8_readsMatters_0 : decode cX8_readsMatters 0 = .ok (.aload_n 0, 1) := by decide +kernel
theorem dX8_readsMatters_1 : decode cX8_readsMatters 1 = .ok (.iconst 0, 1) := by decide +kernel
theorem dX8_readsMatters_2 : decode cX8_readsMatters 2 = .ok (.putfield 86, 3) := by decide +kernel
theorem dX8_readsMatters_5 : decode cX8_readsMatters 5 = .ok (.iconst 0, 1) := by decide +kernel
theorem dX8_readsMatters_6 : decode cX8_readsMatters 6 = .ok (.istore_n 1, 1) := by decide +kernel
theorem dX8_readsMatters_7 : decode cX8_readsMatters 7 = .ok (.iconst 0, 1) := by decide +kernel
theorem dX8_readsMatters_8 : decode cX8_readsMatters 8 = .ok (.istore_n 2, 1) := by decide +kernel
theorem dX8_readsMatters_9 : decode cX8_readsMatters 9 = .ok (.iload_n 2, 1) := by decide +kernel
theorem dX8_readsMatters_10 : decode cX8_readsMatters 10 = .ok (.aload_n 0, 1) := by decide +kernel
theorem dX8_readsMatters_11 : decode cX8_readsMatters 11 = .ok (.getfield 7, 3) := by decide +kernel
theorem dX8_readsMatters_14 : decode cX8_readsMatters 14 = .ok (.iconst 0, 1) := by decide +kernel
theorem dX8_readsMatters_15 : decode cX8_readsMatters 15 = .ok (.iaload, 1) := by decide +kernel
theorem dX8_readsMatters_16 : decode cX8_readsMatters 16 = .ok (.if_icmp .lt 7, 3) := by decide +kernel
theorem dX8_readsMatters_19 : decode cX8_readsMatters 19 = .ok (.iload_n 2, 1) := by decide +kernel
theorem dX8_readsMatters_20 : decode cX8_readsMatters 20 = .ok (.ifCond .le 70, 3) := by decide +kernel
theorem dX8_readsMatters_23 : decode cX8_readsMatters 23 = .ok (.iload_n 1, 1) := by decide +kernel
theorem dX8_readsMatters_24 : decode cX8_readsMatters 24 = .ok (.bipush 10, 2) := by decide +kernel
theorem dX8_readsMatters_26 : decode cX8_readsMatters 26 = .ok (.if_icmp .ne 5, 3) := by decide +kernel
theorem dX8_readsMatters_29 : decode cX8_readsMatters 29 = .ok (.iload_n 2, 1) := by decide +kernel
theorem dX8_readsMatters_30 : decode cX8_readsMatters 30 = .ok (.ireturn, 1) := by decide +kernel
theorem dX8_readsMatters_31 : decode cX8_readsMatters 31 = .ok (.aload_n 0, 1) := by decide +kernel
theorem dX8_readsMatters_32 : decode cX8_readsMatters 32 = .ok (.iload_n 1, 1) := by decide +kernel
theorem dX8_readsMatters_33 : decode cX8_readsMatters 33 = .ok (.iload_n 2, 1) := by decide +kernel
theorem dX8_readsMatters_34 : decode cX8_readsMatters 34 = .ok (.invokevirtual 89, 3) := by decide +kernel
theorem dX8_readsMatters_37 : decode cX8_readsMatters 37 = .ok (.istore_n 3, 1) := by decide +kernel
theorem dX8_readsMatters_38 : decode cX8_readsMatters 38 = .ok (.iload_n 3, 1) := by decide +kernel
theorem dX8_readsMatters_39 : decode cX8_readsMatters 39 = .ok (.ifCond .ge 8, 3) := by decide +kernel
theorem dX8_readsMatters_42 : decode cX8_readsMatters 42 = .ok (.iload_n 3, 1) := by decide +kernel
theorem dX8_readsMatters_43 : decode cX8_readsMatters 43 = .ok (.ineg, 1) := by decide +kernel
theorem dX8_readsMatters_44 : decode cX8_readsMatters 44 = .ok (.iconst 1, 1) := by decide +kernel
theorem dX8_readsMatters_45 : decode cX8_readsMatters 45 = .ok (.isub, 1) := by decide +kernel
theorem dX8_readsMatters_46 : decode cX8_readsMatters 46 = .ok (.ireturn, 1) := by decide +kernel
theorem dX8_readsMatters_47 : decode cX8_readsMatters 47 = .ok (.iinc 1 1, 3) := by decide +kernel
theorem dX8_readsMatters_50 : decode cX8_readsMatters 50 = .ok (.iload_n 2, 1) := by decide +kernel
theorem dX8_readsMatters_51 : decode cX8_readsMatters 51 = .ok (.iload_n 3, 1) := by decide +kernel
theorem dX8_readsMatters_52 : decode cX8_readsMatters 52 = .ok (.iadd, 1) := by decide +kernel
theorem dX8_readsMatters_53 : decode cX8_readsMatters 53 = .ok (.istore_n 2, 1) := by decide +kernel
theorem dX8_readsMatters_54 : decode cX8_readsMatters 54 = .ok (.iload_n 2, 1) := by decide +kernel
theorem dX8_readsMatters_55 : decode cX8_readsMatters 55 = .ok (.aload_n 0, 1) := by decide +kernel
theorem dX8_readsMatters_56 : decode cX8_readsMatters 56 = .ok (.getfield 7, 3) := by decide +kernel
theorem dX8_readsMatters_59 : decode cX8_readsMatters 59 = .ok (.iconst 0, 1) := by decide +kernel
theorem dX8_readsMatters_60 : decode cX8_readsMatters 60 = .ok (.iaload, 1) := by decide +kernel
theorem dX8_readsMatters_61 : decode cX8_readsMatters 61 = .ok (.if_icmp .ne 10, 3) := by decide +kernel
theorem dX8_readsMatters_64 : decode cX8_readsMatters 64 = .ok (.aload_n 0, 1) := by decide +kernel
theorem dX8_readsMatters_65 : decode cX8_readsMatters 65 = .ok (.iload_n 1, 1) := by decide +kernel
theorem dX8_readsMatters_66 : decode cX8_readsMatters 66 = .ok (.putfield 86, 3) := by decide +kernel
theorem dX8_readsMatters_69 : decode cX8_readsMatters 69 = .ok (.iconst (-1), 1) := by decide +kernel
theorem dX8_readsMatters_70 : decode cX8_readsMatters 70 = .ok (.ireturn, 1) := by decide +kernel
theorem dX8_readsMatters_71 : decode cX8_readsMatters 71 = .ok (.aload_n 0, 1) := by decide +kernel
theorem dX8_readsMatters_72 : decode cX8_readsMatters 72 = .ok (.iconst 0, 1) := by decide +kernel
theorem dX8_readsMatters_73 : decode cX8_readsMatters 73 = .ok (.iload_n 2, 1) := by decide +kernel
theorem dX8_readsMatters_74 : decode cX8_readsMatters 74 = .ok (.invokevirtual 74, 3) := by decide +kernel
theorem dX8_readsMatters_77 : decode cX8_readsMatters 77 = .ok (.bipush 59, 2) := by decide +kernel
theorem dX8_readsMatters_79 : decode cX8_readsMatters 79 = .ok (.if_icmp .eq 5, 3) := by decide +kernel
theorem dX8_readsMatters_82 : decode cX8_readsMatters 82 = .ok (.iload_n 2, 1) := by decide +kernel
theorem dX8_readsMatters_83 : decode cX8_readsMatters 83 = .ok (.ireturn, 1) := by decide +kernel
theorem dX8_readsMatters_84 : decode cX8_readsMatters 84 = .ok (.iinc 2 1, 3) := by decide +kernel
theorem dX8_readsMatters_87 : decode cX8_readsMatters 87 = .ok (.goto (-78), 3) := by decide +kernel
theorem dX8_readsMatters_90 : decode cX8_readsMatters 90 = .ok (.iconst (-1), 1) := by decide +kernel
theorem dX8_readsMatters_91 : decode cX8_readsMatters 91 = .ok (.ireturn, 1) := by decide +kernel
theorem dX8_readsPosts_0 : decode cX8_readsPosts 0 = .ok (.iload_n 1, 1) := by decide +kernel
theorem dX8_readsPosts_1 : decode cX8_readsPosts 1 = .ok (.iconst 1, 1) := by decide +kernel
theorem dX8_readsPosts_2 : decode cX8_readsPosts 2 = .ok (.isub, 1) := by decide +kernel
theorem dX8_readsPosts_3 : decode cX8_readsPosts 3 = .ok (.istore_n 2, 1) := by decide +kernel
theorem dX8_readsPosts_4 : decode cX8_readsPosts 4 = .ok (.aload_n 0, 1) := by decide +kernel
theorem dX8_readsPosts_5 : decode cX8_readsPosts 5 = .ok (.getfield 19, 3) := by decide +kernel
theorem dX8_readsPosts_8 : decode cX8_readsPosts 8 = .ok (.iload_n 2, 1) := by decide +kernel
theorem dX8_readsPosts_9 : decode cX8_readsPosts 9 = .ok (.iconst 0, 1) := by decide +kernel
theorem dX8_readsPosts_10 : decode cX8_readsPosts 10 = .ok (.iastore, 1) := by decide +kernel
theorem dX8_readsPosts_11 : decode cX8_readsPosts 11 = .ok (.iconst 0, 1) := by decide +kernel
theorem dX8_readsPosts_12 : decode cX8_readsPosts 12 = .ok (.istore_n 3, 1) := by decide +kernel
theorem dX8_readsPosts_13 : decode cX8_readsPosts 13 = .ok (.iconst 0, 1) := by decide +kernel
theorem dX8_readsPosts_14 : decode cX8_readsPosts 14 = .ok (.istore 4, 2) := by decide +kernel
theorem dX8_readsPosts_16 : decode cX8_readsPosts 16 = .ok (.iload 4, 2) := by decide +kernel
theorem dX8_readsPosts_18 : decode cX8_readsPosts 18 = .ok (.aload_n 0, 1) := by decide +kernel
theorem dX8_readsPosts_19 : decode cX8_readsPosts 19 = .ok (.getfield 7, 3) := by decide +kernel
theorem dX8_readsPosts_22 : decode cX8_readsPosts 22 = .ok (.iload_n 1, 1) := by decide +kernel
theorem dX8_readsPosts_23 : decode cX8_readsPosts 23 = .ok (.iaload, 1) := by decide +kernel
theorem dX8_readsPosts_24 : decode cX8_readsPosts 24 = .ok (.if_icmp .lt 8, 3) := by decide +kernel
theorem dX8_readsPosts_27 : decode cX8_readsPosts 27 = .ok (.iload 4, 2) := by decide +kernel
theorem dX8_readsPosts_29 : decode cX8_readsPosts 29 = .ok (.ifCond .le 224, 3) := by decide +kernel
theorem dX8_readsPosts_32 : decode cX8_readsPosts 32 = .ok (.iload_n 3, 1) := by decide +kernel
theorem dX8_readsPosts_33 : decode cX8_readsPosts 33 = .ok (.bipush 10, 2) := by decide +kernel
theorem dX8_readsPosts_35 : decode cX8_readsPosts 35 = .ok (.if_icmp .ne 6, 3) := by decide +kernel
theorem dX8_readsPosts_38 : decode cX8_readsPosts 38 = .ok (.iload 4, 2) := by decide +kernel
theorem dX8_readsPosts_40 : decode cX8_readsPosts 40 = .ok (.ireturn, 1) := by decide +kernel
theorem dX8_readsPosts_41 : decode cX8_readsPosts 41 = .ok (.aload_n 0, 1) := by decide +kernel
theorem dX8_readsPosts_42 : decode cX8_readsPosts 42 = .ok (.iload_n 1, 1) := by decide +kernel
theorem dX8_readsPosts_43 : decode cX8_readsPosts 43 = .ok (.iload 4, 2) := by decide +kernel
theorem dX8_readsPosts_45 : decode cX8_readsPosts 45 = .ok (.bipush 9, 2) := by decide +kernel
theorem dX8_readsPosts_47 : decode cX8_readsPosts 47 = .ok (.invokevirtual 78, 3) := by decide +kernel
theorem dX8_readsPosts_50 : decode cX8_readsPosts 50 = .ok (.istore 5, 2) := by decide +kernel
theorem dX8_readsPosts_52 : decode cX8_readsPosts 52 = .ok (.aload_n 0, 1) := by decide +kernel
theorem dX8_readsPosts_53 : decode cX8_readsPosts 53 = .ok (.iload_n 1, 1) := by decide +kernel
theorem dX8_readsPosts_54 : decode cX8_readsPosts 54 = .ok (.iload 4, 2) := by decide +kernel
theorem dX8_readsPosts_56 : decode cX8_readsPosts 56 = .ok (.iconst 1, 1) := by decide +kernel
theorem dX8_readsPosts_57 : decode cX8_readsPosts 57 = .ok (.iadd, 1) := by decide +kernel
theorem dX8_readsPosts_58 : decode cX8_readsPosts 58 = .ok (.bipush 9, 2) := by decide +kernel
theorem dX8_readsPosts_60 : decode cX8_readsPosts 60 = .ok (.invokevirtual 78, 3) := by decide +kernel
theorem dX8_readsPosts_63 : decode cX8_readsPosts 63 = .ok (.istore 6, 2) := by decide +kernel
theorem dX8_readsPosts_65 : decode cX8_readsPosts 65 = .ok (.aload_n 0, 1) := by decide +kernel
theorem dX8_readsPosts_66 : decode cX8_readsPosts 66 = .ok (.iload_n 1, 1) := by decide +kernel
theorem dX8_readsPosts_67 : decode cX8_readsPosts 67 = .ok (.iload 4, 2) := by decide +kernel
theorem dX8_readsPosts_69 : decode cX8_readsPosts 69 = .ok (.iconst 2, 1) := by decide +kernel
theorem dX8_readsPosts_70 : decode cX8_readsPosts 70 = .ok (.iadd, 1) := by decide +kernel
theorem dX8_readsPosts_71 : decode cX8_readsPosts 71 = .ok (.iconst 5, 1) := by decide +kernel
theorem dX8_readsPosts_72 : decode cX8_readsPosts 72 = .ok (.invokevirtual 78, 3) := by decide +kernel
theorem dX8_readsPosts_75 : decode cX8_readsPosts 75 = .ok (.istore 7, 2) := by decide +kernel
theorem dX8_readsPosts_77 : decode cX8_readsPosts 77 = .ok (.aload_n 0, 1) := by decide +kernel
theorem dX8_readsPosts_78 : decode cX8_readsPosts 78 = .ok (.iload_n 1, 1) := by decide +kernel
theorem dX8_readsPosts_79 : decode cX8_readsPosts 79 = .ok (.iload 4, 2) := by decide +kernel
theorem dX8_readsPosts_81 : decode cX8_readsPosts 81 = .ok (.iconst 3, 1) := by decide +kernel
theorem dX8_readsPosts_82 : decode cX8_readsPosts 82 = .ok (.iadd, 1) := by decide +kernel
theorem dX8_readsPosts_83 : decode cX8_readsPosts 83 = .ok (.iconst 5, 1) := by decide +kernel
theorem dX8_readsPosts_84 : decode cX8_readsPosts 84 = .ok (.invokevirtual 78, 3) := by decide +kernel
theorem dX8_readsPosts_87 : decode cX8_readsPosts 87 = .ok (.istore 8, 2) := by decide +kernel
theorem dX8_readsPosts_89 : decode cX8_readsPosts 89 = .ok (.iload 5, 2) := by decide +kernel
theorem dX8_readsPosts_91 : decode cX8_readsPosts 91 = .ok (.iconst (-1), 1) := by decide +kernel
theorem dX8_readsPosts_92 : decode cX8_readsPosts 92 = .ok (.if_icmp .ne 7, 3) := by decide +kernel
theorem dX8_readsPosts_95 : decode cX8_readsPosts 95 = .ok (.iconst 0, 1) := by decide +kernel
theorem dX8_readsPosts_96 : decode cX8_readsPosts 96 = .ok (.goto 41, 3) := by decide +kernel
theorem dX8_readsPosts_99 : decode cX8_readsPosts 99 = .ok (.iload 6, 2) := by decide +kernel
theorem dX8_readsPosts_101 : decode cX8_readsPosts 101 = .ok (.iconst (-1), 1) := by decide +kernel
theorem dX8_readsPosts_102 : decode cX8_readsPosts 102 = .ok (.if_icmp .ne 7, 3) := by decide +kernel
theorem dX8_readsPosts_105 : decode cX8_readsPosts 105 = .ok (.iconst 1, 1) := by decide +kernel
theorem dX8_readsPosts_106 : decode cX8_readsPosts 106 = .ok (.goto 31, 3) := by decide +kernel
theorem dX8_readsPosts_109 : decode cX8_readsPosts 109 = .ok (.iload 7, 2) := by decide +kernel
theorem dX8_readsPosts_111 : decode cX8_readsPosts 111 = .ok (.iconst (-1), 1) := by decide +kernel
theorem dX8_readsPosts_112 : decode cX8_readsPosts 112 = .ok (.if_icmp .ne 7, 3) := by decide +kernel
theorem dX8_readsPosts_115 : decode cX8_readsPosts 115 = .ok (.iconst 2, 1) := by decide +kernel
theorem dX8_readsPosts_116 : decode cX8_readsPosts 116 = .ok (.goto 21, 3) := by decide +kernel
theorem dX8_readsPosts_119 : decode cX8_readsPosts 119 = .ok (.iload 8, 2) := by decide +kernel
theorem dX8_readsPosts_121 : decode cX8_readsPosts 121 = .ok (.iconst (-1), 1) := by decide +kernel
theorem dX8_readsPosts_122 : decode cX8_readsPosts 122 = .ok (.if_icmp .eq 10, 3) := by decide +kernel
theorem dX8_readsPosts_125 : decode cX8_readsPosts 125 = .ok (.iload 8, 2) := by decide +kernel
theorem dX8_readsPosts_127 : decode cX8_readsPosts 127 = .ok (.iload 7, 2) := by decide +kernel
theorem dX8_readsPosts_129 : decode cX8_readsPosts 129 = .ok (.if_icmp .ne 7, 3) := by decide +kernel
theorem dX8_readsPosts_132 : decode cX8_readsPosts 132 = .ok (.iconst 3, 1) := by decide +kernel
theorem dX8_readsPosts_133 : decode cX8_readsPosts 133 = .ok (.goto 4, 3) := by decide +kernel
theorem dX8_readsPosts_136 : decode cX8_readsPosts 136 = .ok (.iconst 4, 1) := by decide +kernel
theorem dX8_readsPosts_137 : decode cX8_readsPosts 137 = .ok (.istore 9, 2) := by decide +kernel
theorem dX8_readsPosts_139 : decode cX8_readsPosts 139 = .ok (.iload 9, 2) := by decide +kernel
theorem dX8_readsPosts_141 : decode cX8_readsPosts 141 = .ok (.iconst 4, 1) := by decide +kernel
theorem dX8_readsPosts_142 : decode cX8_readsPosts 142 = .ok (.if_icmp .ge 9, 3) := by decide +kernel
theorem dX8_readsPosts_145 : decode cX8_readsPosts 145 = .ok (.iload 4, 2) := by decide +kernel
theorem dX8_readsPosts_147 : decode cX8_readsPosts 147 = .ok (.iload 9, 2) := by decide +kernel
theorem dX8_readsPosts_149 : decode cX8_readsPosts 149 = .ok (.iadd, 1) := by decide +kernel
theorem dX8_readsPosts_150 : decode cX8_readsPosts 150 = .ok (.ireturn, 1) := by decide +kernel
theorem dX8_readsPosts_151 : decode cX8_readsPosts 151 = .ok (.aload_n 0, 1) := by decide +kernel
theorem dX8_readsPosts_152 : decode cX8_readsPosts 152 = .ok (.getfield 22, 3) := by decide +kernel
theorem dX8_readsPosts_155 : decode cX8_readsPosts 155 = .ok (.bipush 33, 2) := by decide +kernel
theorem dX8_readsPosts_157 : decode cX8_readsPosts 157 = .ok (.iload_n 2, 1) := by decide +kernel
theorem dX8_readsPosts_158 : decode cX8_readsPosts 158 = .ok (.imul, 1) := by decide +kernel
theorem dX8_readsPosts_159 : decode cX8_readsPosts 159 = .ok (.iconst 3, 1) := by decide +kernel
theorem dX8_readsPosts_160 : decode cX8_readsPosts 160 = .ok (.iload_n 3, 1) := by decide +kernel
theorem dX8_readsPosts_161 : decode cX8_readsPosts 161 = .ok (.imul, 1) := by decide +kernel
theorem dX8_readsPosts_162 : decode cX8_readsPosts 162 = .ok (.iadd, 1) := by decide +kernel
theorem dX8_readsPosts_163 : decode cX8_readsPosts 163 = .ok (.bipush 10, 2) := by decide +kernel
theorem dX8_readsPosts_165 : decode cX8_readsPosts 165 = .ok (.iload 5, 2) := by decide +kernel
theorem dX8_readsPosts_167 : decode cX8_readsPosts 167 = .ok (.imul, 1) := by decide +kernel
theorem dX8_readsPosts_168 : decode cX8_readsPosts 168 = .ok (.iload 6, 2) := by decide +kernel
theorem dX8_readsPosts_170 : decode cX8_readsPosts 170 = .ok (.iadd, 1) := by decide +kernel
theorem dX8_readsPosts_171 : decode cX8_readsPosts 171 = .ok (.iastore, 1) := by decide +kernel
theorem dX8_readsPosts_172 : decode cX8_readsPosts 172 = .ok (.aload_n 0, 1) := by decide +kernel
theorem dX8_readsPosts_173 : decode cX8_readsPosts 173 = .ok (.getfield 22, 3) := by decide +kernel
theorem dX8_readsPosts_176 : decode cX8_readsPosts 176 = .ok (.bipush 33, 2) := by decide +kernel
theorem dX8_readsPosts_178 : decode cX8_readsPosts 178 = .ok (.iload_n 2, 1) := by decide +kernel
theorem dX8_readsPosts_179 : decode cX8_readsPosts 179 = .ok (.imul, 1) := by decide +kernel
theorem dX8_readsPosts_180 : decode cX8_readsPosts 180 = .ok (.iconst 3, 1) := by decide +kernel
theorem dX8_readsPosts_181 : decode cX8_readsPosts 181 = .ok (.iload_n 3, 1) := by decide +kernel
theorem dX8_readsPosts_182 : decode cX8_readsPosts 182 = .ok (.imul, 1) := by decide +kernel
theorem dX8_readsPosts_183 : decode cX8_readsPosts 183 = .ok (.iadd, 1) := by decide +kernel
theorem dX8_readsPosts_184 : decode cX8_readsPosts 184 = .ok (.iconst 1, 1) := by decide +kernel
theorem dX8_readsPosts_185 : decode cX8_readsPosts 185 = .ok (.iadd, 1) := by decide +kernel
theorem dX8_readsPosts_186 : decode cX8_readsPosts 186 = .ok (.iload 7, 2) := by decide +kernel
theorem dX8_readsPosts_188 : decode cX8_readsPosts 188 = .ok (.iastore, 1) := by decide +kernel
theorem dX8_readsPosts_189 : decode cX8_readsPosts 189 = .ok (.aload_n 0, 1) := by decide +kernel
theorem dX8_readsPosts_190 : decode cX8_readsPosts 190 = .ok (.getfield 22, 3) := by decide +kernel
theorem dX8_readsPosts_193 : decode cX8_readsPosts 193 = .ok (.bipush 33, 2) := by decide +kernel
theorem dX8_readsPosts_195 : decode cX8_readsPosts 195 = .ok (.iload_n 2, 1) := by decide +kernel
theorem dX8_readsPosts_196 : decode cX8_readsPosts 196 = .ok (.imul, 1) := by decide +kernel
theorem dX8_readsPosts_197 : decode cX8_readsPosts 197 = .ok (.iconst 3, 1) := by decide +kernel
theorem dX8_readsPosts_198 : decode cX8_readsPosts 198 = .ok (.iload_n 3, 1) := by decide +kernel
theorem dX8_readsPosts_199 : decode cX8_readsPosts 199 = .ok (.imul, 1) := by decide +kernel
theorem dX8_readsPosts_200 : decode cX8_readsPosts 200 = .ok (.iadd, 1) := by decide +kernel
theorem dX8_readsPosts_201 : decode cX8_readsPosts 201 = .ok (.iconst 2, 1) := by decide +kernel
theorem dX8_readsPosts_202 : decode cX8_readsPosts 202 = .ok (.iadd, 1) := by decide +kernel
theorem dX8_readsPosts_203 : decode cX8_readsPosts 203 = .ok (.iload 8, 2) := by decide +kernel
theorem dX8_readsPosts_205 : decode cX8_readsPosts 205 = .ok (.iastore, 1) := by decide +kernel
theorem dX8_readsPosts_206 : decode cX8_readsPosts 206 = .ok (.iinc 3 1, 3) := by decide +kernel
theorem dX8_readsPosts_209 : decode cX8_readsPosts 209 = .ok (.iinc 4 4, 3) := by decide +kernel
theorem dX8_readsPosts_212 : decode cX8_readsPosts 212 = .ok (.iload 4, 2) := by decide +kernel
theorem dX8_readsPosts_214 : decode cX8_readsPosts 214 = .ok (.aload_n 0, 1) := by decide +kernel
theorem dX8_readsPosts_215 : decode cX8_readsPosts 215 = .ok (.getfield 7, 3) := by decide +kernel
theorem dX8_readsPosts_218 : decode cX8_readsPosts 218 = .ok (.iload_n 1, 1) := by decide +kernel
theorem dX8_readsPosts_219 : decode cX8_readsPosts 219 = .ok (.iaload, 1) := by decide +kernel
theorem dX8_readsPosts_220 : decode cX8_readsPosts 220 = .ok (.if_icmp .ne 12, 3) := by decide +kernel
theorem dX8_readsPosts_223 : decode cX8_readsPosts 223 = .ok (.aload_n 0, 1) := by decide +kernel
theorem dX8_readsPosts_224 : decode cX8_readsPosts 224 = .ok (.getfield 19, 3) := by decide +kernel
theorem dX8_readsPosts_227 : decode cX8_readsPosts 227 = .ok (.iload_n 2, 1) := by decide +kernel
theorem dX8_readsPosts_228 : decode cX8_readsPosts 228 = .ok (.iload_n 3, 1) := by decide +kernel
theorem dX8_readsPosts_229 : decode cX8_readsPosts 229 = .ok (.iastore, 1) := by decide +kernel
theorem dX8_readsPosts_230 : decode cX8_readsPosts 230 = .ok (.iconst (-1), 1) := by decide +kernel
theorem dX8_readsPosts_231 : decode cX8_readsPosts 231 = .ok (.ireturn, 1) := by decide +kernel
theorem dX8_readsPosts_232 : decode cX8_readsPosts 232 = .ok (.aload_n 0, 1) := by decide +kernel
theorem dX8_readsPosts_233 : decode cX8_readsPosts 233 = .ok (.iload_n 1, 1) := by decide +kernel
theorem dX8_readsPosts_234 : decode cX8_readsPosts 234 = .ok (.iload 4, 2) := by decide +kernel
theorem dX8_readsPosts_236 : decode cX8_readsPosts 236 = .ok (.invokevirtual 74, 3) := by decide +kernel
theorem dX8_readsPosts_239 : decode cX8_readsPosts 239 = .ok (.bipush 59, 2) := by decide +kernel
theorem dX8_readsPosts_241 : decode cX8_readsPosts 241 = .ok (.if_icmp .eq 6, 3) := by decide +kernel
theorem dX8_readsPosts_244 : decode cX8_readsPosts 244 = .ok (.iload 4, 2) := by decide +kernel
theorem dX8_readsPosts_246 : decode cX8_readsPosts 246 = .ok (.ireturn, 1) := by decide +kernel
theorem dX8_readsPosts_247 : decode cX8_readsPosts 247 = .ok (.iinc 4 1, 3) := by decide +kernel
theorem dX8_readsPosts_250 : decode cX8_readsPosts 250 = .ok (.goto (-234), 3) := by decide +kernel
theorem dX8_readsPosts_253 : decode cX8_readsPosts 253 = .ok (.iconst (-1), 1) := by decide +kernel
theorem dX8_readsPosts_254 : decode cX8_readsPosts 254 = .ok (.ireturn, 1) := by decide +kernel
theorem dX8_faultOf_0 : decode cX8_faultOf 0 = .ok (.aload_n 0, 1) := by decide +kernel
theorem dX8_faultOf_1 : decode cX8_faultOf 1 = .ok (.invokevirtual 92, 3) := by decide +kernel
theorem dX8_faultOf_4 : decode cX8_faultOf 4 = .ok (.istore_n 2, 1) := by decide +kernel
theorem dX8_faultOf_5 : decode cX8_faultOf 5 = .ok (.aload_n 0, 1) := by decide +kernel
theorem dX8_faultOf_6 : decode cX8_faultOf 6 = .ok (.iconst 1, 1) := by decide +kernel
theorem dX8_faultOf_7 : decode cX8_faultOf 7 = .ok (.invokevirtual 96, 3) := by decide +kernel
theorem dX8_faultOf_10 : decode cX8_faultOf 10 = .ok (.istore_n 3, 1) := by decide +kernel
theorem dX8_faultOf_11 : decode cX8_faultOf 11 = .ok (.aload_n 0, 1) := by decide +kernel
theorem dX8_faultOf_12 : decode cX8_faultOf 12 = .ok (.iconst 2, 1) := by decide +kernel
theorem dX8_faultOf_13 : decode cX8_faultOf 13 = .ok (.invokevirtual 96, 3) := by decide +kernel
theorem dX8_faultOf_16 : decode cX8_faultOf 16 = .ok (.istore 4, 2) := by decide +kernel
theorem dX8_faultOf_18 : decode cX8_faultOf 18 = .ok (.iload_n 1, 1) := by decide +kernel
theorem dX8_faultOf_19 : decode cX8_faultOf 19 = .ok (.ifCond .ne 7, 3) := by decide +kernel
theorem dX8_faultOf_22 : decode cX8_faultOf 22 = .ok (.iload_n 2, 1) := by decide +kernel
theorem dX8_faultOf_23 : decode cX8_faultOf 23 = .ok (.goto 14, 3) := by decide +kernel
theorem dX8_faultOf_26 : decode cX8_faultOf 26 = .ok (.iload_n 1, 1) := by decide +kernel
theorem dX8_faultOf_27 : decode cX8_faultOf 27 = .ok (.iconst 1, 1) := by decide +kernel
theorem dX8_faultOf_28 : decode cX8_faultOf 28 = .ok (.if_icmp .ne 7, 3) := by decide +kernel
theorem dX8_faultOf_31 : decode cX8_faultOf 31 = .ok (.iload_n 3, 1) := by decide +kernel
theorem dX8_faultOf_32 : decode cX8_faultOf 32 = .ok (.goto 5, 3) := by decide +kernel
theorem dX8_faultOf_35 : decode cX8_faultOf 35 = .ok (.iload 4, 2) := by decide +kernel
theorem dX8_faultOf_37 : decode cX8_faultOf 37 = .ok (.ireturn, 1) := by decide +kernel
theorem dX8_reads_0 : decode cX8_reads 0 = .ok (.aload_n 0, 1) := by decide +kernel
theorem dX8_reads_1 : decode cX8_reads 1 = .ok (.iconst 0, 1) := by decide +kernel
theorem dX8_reads_2 : decode cX8_reads 2 = .ok (.invokevirtual 99, 3) := by decide +kernel
theorem dX8_reads_5 : decode cX8_reads 5 = .ok (.istore_n 1, 1) := by decide +kernel
theorem dX8_reads_6 : decode cX8_reads 6 = .ok (.return_, 1) := by decide +kernel
theorem dX8_fault_0 : decode cX8_fault 0 = .ok (.iload_n 1, 1) := by decide +kernel
theorem dX8_fault_1 : decode cX8_fault 1 = .ok (.invokestatic 70, 3) := by decide +kernel
theorem dX8_fault_4 : decode cX8_fault 4 = .ok (.ifCond .eq 11, 3) := by decide +kernel
theorem dX8_fault_7 : decode cX8_fault 7 = .ok (.aload_n 0, 1) := by decide +kernel
theorem dX8_fault_8 : decode cX8_fault 8 = .ok (.iload_n 1, 1) := by decide +kernel
theorem dX8_fault_9 : decode cX8_fault 9 = .ok (.invokevirtual 99, 3) := by decide +kernel
theorem dX8_fault_12 : decode cX8_fault 12 = .ok (.goto 5, 3) := by decide +kernel
theorem dX8_fault_15 : decode cX8_fault 15 = .ok (.bipush (-2), 2) := by decide +kernel
theorem dX8_fault_17 : decode cX8_fault 17 = .ok (.ireturn, 1) := by decide +kernel
theorem dX8_isMatter_0 : decode cX8_isMatter 0 = .ok (.aload_n 0, 1) := by decide +kernel
theorem dX8_isMatter_1 : decode cX8_isMatter 1 = .ok (.invokevirtual 102, 3) := by decide +kernel
theorem dX8_isMatter_4 : decode cX8_isMatter 4 = .ok (.iload_n 1, 1) := by decide +kernel
theorem dX8_isMatter_5 : decode cX8_isMatter 5 = .ok (.iconst 0, 1) := by decide +kernel
theorem dX8_isMatter_6 : decode cX8_isMatter 6 = .ok (.aload_n 0, 1) := by decide +kernel
theorem dX8_isMatter_7 : decode cX8_isMatter 7 = .ok (.getfield 86, 3) := by decide +kernel
theorem dX8_isMatter_10 : decode cX8_isMatter 10 = .ok (.iconst 1, 1) := by decide +kernel
theorem dX8_isMatter_11 : decode cX8_isMatter 11 = .ok (.isub, 1) := by decide +kernel
theorem dX8_isMatter_12 : decode cX8_isMatter 12 = .ok (.invokestatic 66, 3) := by decide +kernel
theorem dX8_isMatter_15 : decode cX8_isMatter 15 = .ok (.ireturn, 1) := by decide +kernel
theorem dX8_matter_0 : decode cX8_matter 0 = .ok (.aload_n 0, 1) := by decide +kernel
theorem dX8_matter_1 : decode cX8_matter 1 = .ok (.iload_n 1, 1) := by decide +kernel
theorem dX8_matter_2 : decode cX8_matter 2 = .ok (.invokevirtual 105, 3) := by decide +kernel
theorem dX8_matter_5 : decode cX8_matter 5 = .ok (.ifCond .eq 26, 3) := by decide +kernel
theorem dX8_matter_8 : decode cX8_matter 8 = .ok (.iload_n 2, 1) := by decide +kernel
theorem dX8_matter_9 : decode cX8_matter 9 = .ok (.iconst 0, 1) := by decide +kernel
theorem dX8_matter_10 : decode cX8_matter 10 = .ok (.iconst 5, 1) := by decide +kernel
theorem dX8_matter_11 : decode cX8_matter 11 = .ok (.invokestatic 66, 3) := by decide +kernel
theorem dX8_matter_14 : decode cX8_matter 14 = .ok (.ifCond .eq 17, 3) := by decide +kernel
theorem dX8_matter_17 : decode cX8_matter 17 = .ok (.aload_n 0, 1) := by decide +kernel
theorem dX8_matter_18 : decode cX8_matter 18 = .ok (.getfield 16, 3) := by decide +kernel
theorem dX8_matter_21 : decode cX8_matter 21 = .ok (.bipush 6, 2) := by decide +kernel
theorem dX8_matter_23 : decode cX8_matter 23 = .ok (.iload_n 1, 1) := by decide +kernel
theorem dX8_matter_24 : decode cX8_matter 24 = .ok (.imul, 1) := by decide +kernel
theorem dX8_matter_25 : decode cX8_matter 25 = .ok (.iload_n 2, 1) := by decide +kernel
theorem dX8_matter_26 : decode cX8_matter 26 = .ok (.iadd, 1) := by decide +kernel
theorem dX8_matter_27 : decode cX8_matter 27 = .ok (.iaload, 1) := by decide +kernel
theorem dX8_matter_28 : decode cX8_matter 28 = .ok (.goto 5, 3) := by decide +kernel
theorem dX8_matter_31 : decode cX8_matter 31 = .ok (.bipush (-2), 2) := by decide +kernel
theorem dX8_matter_33 : decode cX8_matter 33 = .ok (.ireturn, 1) := by decide +kernel
theorem dX8_set_0 : decode cX8_set 0 = .ok (.iload_n 1, 1) := by decide +kernel
theorem dX8_set_1 : decode cX8_set 1 = .ok (.ifCond .ne 8, 3) := by decide +kernel
theorem dX8_set_4 : decode cX8_set 4 = .ok (.bipush 20, 2) := by decide +kernel
theorem dX8_set_6 : decode cX8_set 6 = .ok (.goto 26, 3) := by decide +kernel
theorem dX8_set_9 : decode cX8_set 9 = .ok (.iload_n 1, 1) := by decide +kernel
theorem dX8_set_10 : decode cX8_set 10 = .ok (.iconst 1, 1) := by decide +kernel
theorem dX8_set_11 : decode cX8_set 11 = .ok (.if_icmp .ne 8, 3) := by decide +kernel
theorem dX8_set_14 : decode cX8_set 14 = .ok (.bipush 9, 2) := by decide +kernel
theorem dX8_set_16 : decode cX8_set 16 = .ok (.goto 16, 3) := by decide +kernel
theorem dX8_set_19 : decode cX8_set 19 = .ok (.iload_n 1, 1) := by decide +kernel
theorem dX8_set_20 : decode cX8_set 20 = .ok (.iconst 2, 1) := by decide +kernel
theorem dX8_set_21 : decode cX8_set 21 = .ok (.if_icmp .ne 8, 3) := by decide +kernel
theorem dX8_set_24 : decode cX8_set 24 = .ok (.bipush 99, 2) := by decide +kernel
theorem dX8_set_26 : decode cX8_set 26 = .ok (.goto 6, 3) := by decide +kernel
theorem dX8_set_29 : decode cX8_set 29 = .ok (.sipush 1023, 3) := by decide +kernel
theorem dX8_set_32 : decode cX8_set 32 = .ok (.istore_n 3, 1) := by decide +kernel
theorem dX8_set_33 : decode cX8_set 33 = .ok (.iload_n 1, 1) := by decide +kernel
theorem dX8_set_34 : decode cX8_set 34 = .ok (.iconst 0, 1) := by decide +kernel
theorem dX8_set_35 : decode cX8_set 35 = .ok (.iconst 3, 1) := by decide +kernel
theorem dX8_set_36 : decode cX8_set 36 = .ok (.invokestatic 66, 3) := by decide +kernel
theorem dX8_set_39 : decode cX8_set 39 = .ok (.ifCond .eq 20, 3) := by decide +kernel
theorem dX8_set_42 : decode cX8_set 42 = .ok (.iload_n 2, 1) := by decide +kernel
theorem dX8_set_43 : decode cX8_set 43 = .ok (.iload_n 1, 1) := by decide +kernel
theorem dX8_set_44 : decode cX8_set 44 = .ok (.ifCond .ne 7, 3) := by decide +kernel
theorem dX8_set_47 : decode cX8_set 47 = .ok (.iconst 1, 1) := by decide +kernel
theorem dX8_set_48 : decode cX8_set 48 = .ok (.goto 4, 3) := by decide +kernel
theorem dX8_set_51 : decode cX8_set 51 = .ok (.iconst 0, 1) := by decide +kernel
theorem dX8_set_52 : decode cX8_set 52 = .ok (.iload_n 3, 1) := by decide +kernel
theorem dX8_set_53 : decode cX8_set 53 = .ok (.invokestatic 66, 3) := by decide +kernel
theorem dX8_set_56 : decode cX8_set 56 = .ok (.ifCond .ne 6, 3) := by decide +kernel
theorem dX8_set_59 : decode cX8_set 59 = .ok (.bipush (-2), 2) := by decide +kernel
theorem dX8_set_61 : decode cX8_set 61 = .ok (.ireturn, 1) := by decide +kernel
theorem dX8_set_62 : decode cX8_set 62 = .ok (.iload_n 1, 1) := by decide +kernel
theorem dX8_set_63 : decode cX8_set 63 = .ok (.ifCond .ne 10, 3) := by decide +kernel
theorem dX8_set_66 : decode cX8_set 66 = .ok (.aload_n 0, 1) := by decide +kernel
theorem dX8_set_67 : decode cX8_set 67 = .ok (.getfield 59, 3) := by decide +kernel
theorem dX8_set_70 : decode cX8_set 70 = .ok (.goto 31, 3) := by decide +kernel
theorem dX8_set_73 : decode cX8_set 73 = .ok (.iload_n 1, 1) := by decide +kernel
theorem dX8_set_74 : decode cX8_set 74 = .ok (.iconst 1, 1) := by decide +kernel
theorem dX8_set_75 : decode cX8_set 75 = .ok (.if_icmp .ne 10, 3) := by decide +kernel
theorem dX8_set_78 : decode cX8_set 78 = .ok (.aload_n 0, 1) := by decide +kernel
theorem dX8_set_79 : decode cX8_set 79 = .ok (.getfield 108, 3) := by decide +kernel
theorem dX8_set_82 : decode cX8_set 82 = .ok (.goto 19, 3) := by decide +kernel
theorem dX8_set_85 : decode cX8_set 85 = .ok (.iload_n 1, 1) := by decide +kernel
theorem dX8_set_86 : decode cX8_set 86 = .ok (.iconst 2, 1) := by decide +kernel
theorem dX8_set_87 : decode cX8_set 87 = .ok (.if_icmp .ne 10, 3) := by decide +kernel
theorem dX8_set_90 : decode cX8_set 90 = .ok (.aload_n 0, 1) := by decide +kernel
theorem dX8_set_91 : decode cX8_set 91 = .ok (.getfield 63, 3) := by decide +kernel
theorem dX8_set_94 : decode cX8_set 94 = .ok (.goto 7, 3) := by decide +kernel
theorem dX8_set_97 : decode cX8_set 97 = .ok (.aload_n 0, 1) := by decide +kernel
theorem dX8_set_98 : decode cX8_set 98 = .ok (.getfield 111, 3) := by decide +kernel
theorem dX8_set_101 : decode cX8_set 101 = .ok (.istore 4, 2) := by decide +kernel
theorem dX8_set_103 : decode cX8_set 103 = .ok (.aload_n 0, 1) := by decide +kernel
theorem dX8_set_104 : decode cX8_set 104 = .ok (.iload_n 1, 1) := by decide +kernel
theorem dX8_set_105 : decode cX8_set 105 = .ok (.ifCond .ne 7, 3) := by decide +kernel
theorem dX8_set_108 : decode cX8_set 108 = .ok (.iload_n 2, 1) := by decide +kernel
theorem dX8_set_109 : decode cX8_set 109 = .ok (.goto 7, 3) := by decide +kernel
theorem dX8_set_112 : decode cX8_set 112 = .ok (.aload_n 0, 1) := by decide +kernel
theorem dX8_set_113 : decode cX8_set 113 = .ok (.getfield 59, 3) := by decide +kernel
theorem dX8_set_116 : decode cX8_set 116 = .ok (.putfield 59, 3) := by decide +kernel
theorem dX8_set_119 : decode cX8_set 119 = .ok (.aload_n 0, 1) := by decide +kernel
theorem dX8_set_120 : decode cX8_set 120 = .ok (.iload_n 1, 1) := by decide +kernel
theorem dX8_set_121 : decode cX8_set 121 = .ok (.iconst 1, 1) := by decide +kernel
theorem dX8_set_122 : decode cX8_set 122 = .ok (.if_icmp .ne 7, 3) := by decide +kernel
theorem dX8_set_125 : decode cX8_set 125 = .ok (.iload_n 2, 1) := by decide +kernel
theorem dX8_set_126 : decode cX8_set 126 = .ok (.goto 7, 3) := by decide +kernel
theorem dX8_set_129 : decode cX8_set 129 = .ok (.aload_n 0, 1) := by decide +kernel
theorem dX8_set_130 : decode cX8_set 130 = .ok (.getfield 108, 3) := by decide +kernel
theorem dX8_set_133 : decode cX8_set 133 = .ok (.putfield 108, 3) := by decide +kernel
theorem dX8_set_136 : decode cX8_set 136 = .ok (.aload_n 0, 1) := by decide +kernel
theorem dX8_set_137 : decode cX8_set 137 = .ok (.iload_n 1, 1) := by decide +kernel
theorem dX8_set_138 : decode cX8_set 138 = .ok (.iconst 2, 1) := by decide +kernel
theorem dX8_set_139 : decode cX8_set 139 = .ok (.if_icmp .ne 7, 3) := by decide +kernel
theorem dX8_set_142 : decode cX8_set 142 = .ok (.iload_n 2, 1) := by decide +kernel
theorem dX8_set_143 : decode cX8_set 143 = .ok (.goto 7, 3) := by decide +kernel
theorem dX8_set_146 : decode cX8_set 146 = .ok (.aload_n 0, 1) := by decide +kernel
theorem dX8_set_147 : decode cX8_set 147 = .ok (.getfield 63, 3) := by decide +kernel
theorem dX8_set_150 : decode cX8_set 150 = .ok (.putfield 63, 3) := by decide +kernel
theorem dX8_set_153 : decode cX8_set 153 = .ok (.aload_n 0, 1) := by decide +kernel
theorem dX8_set_154 : decode cX8_set 154 = .ok (.iload_n 1, 1) := by decide +kernel
theorem dX8_set_155 : decode cX8_set 155 = .ok (.iconst 3, 1) := by decide +kernel
theorem dX8_set_156 : decode cX8_set 156 = .ok (.if_icmp .ne 7, 3) := by decide +kernel
theorem dX8_set_159 : decode cX8_set 159 = .ok (.iload_n 2, 1) := by decide +kernel
theorem dX8_set_160 : decode cX8_set 160 = .ok (.goto 7, 3) := by decide +kernel
theorem dX8_set_163 : decode cX8_set 163 = .ok (.aload_n 0, 1) := by decide +kernel
theorem dX8_set_164 : decode cX8_set 164 = .ok (.getfield 111, 3) := by decide +kernel
theorem dX8_set_167 : decode cX8_set 167 = .ok (.putfield 111, 3) := by decide +kernel
theorem dX8_set_170 : decode cX8_set 170 = .ok (.iload 4, 2) := by decide +kernel
theorem dX8_set_172 : decode cX8_set 172 = .ok (.ireturn, 1) := by decide +kernel
theorem dX8_worth_0 : decode cX8_worth 0 = .ok (.iload_n 1, 1) := by decide +kernel
theorem dX8_worth_1 : decode cX8_worth 1 = .ok (.invokestatic 114, 3) := by decide +kernel
theorem dX8_worth_4 : decode cX8_worth 4 = .ok (.ifCond .eq 14, 3) := by decide +kernel
theorem dX8_worth_7 : decode cX8_worth 7 = .ok (.iload_n 2, 1) := by decide +kernel
theorem dX8_worth_8 : decode cX8_worth 8 = .ok (.bipush (-9), 2) := by decide +kernel
theorem dX8_worth_10 : decode cX8_worth 10 = .ok (.bipush 9, 2) := by decide +kernel
theorem dX8_worth_12 : decode cX8_worth 12 = .ok (.invokestatic 66, 3) := by decide +kernel
theorem dX8_worth_15 : decode cX8_worth 15 = .ok (.ifCond .ne 7, 3) := by decide +kernel
theorem dX8_worth_18 : decode cX8_worth 18 = .ok (.sipush (-1002), 3) := by decide +kernel
theorem dX8_worth_21 : decode cX8_worth 21 = .ok (.ireturn, 1) := by decide +kernel
theorem dX8_worth_22 : decode cX8_worth 22 = .ok (.aload_n 0, 1) := by decide +kernel
theorem dX8_worth_23 : decode cX8_worth 23 = .ok (.getfield 25, 3) := by decide +kernel
theorem dX8_worth_26 : decode cX8_worth 26 = .ok (.iload_n 1, 1) := by decide +kernel
theorem dX8_worth_27 : decode cX8_worth 27 = .ok (.iaload, 1) := by decide +kernel
theorem dX8_worth_28 : decode cX8_worth 28 = .ok (.istore_n 3, 1) := by decide +kernel
theorem dX8_worth_29 : decode cX8_worth 29 = .ok (.aload_n 0, 1) := by decide +kernel
theorem dX8_worth_30 : decode cX8_worth 30 = .ok (.getfield 25, 3) := by decide +kernel
theorem dX8_worth_33 : decode cX8_worth 33 = .ok (.iload_n 1, 1) := by decide +kernel
theorem dX8_worth_34 : decode cX8_worth 34 = .ok (.iload_n 2, 1) := by decide +kernel
theorem dX8_worth_35 : decode cX8_worth 35 = .ok (.iastore, 1) := by decide +kernel
theorem dX8_worth_36 : decode cX8_worth 36 = .ok (.iload_n 3, 1) := by decide +kernel
theorem dX8_worth_37 : decode cX8_worth 37 = .ok (.ireturn, 1) := by decide +kernel
theorem dX8_read_0 : decode cX8_read 0 = .ok (.iload_n 1, 1) := by decide +kernel
theorem dX8_read_1 : decode cX8_read 1 = .ok (.invokestatic 117, 3) := by decide +kernel
theorem dX8_read_4 : decode cX8_read 4 = .ok (.ifCond .ne 6, 3) := by decide +kernel
theorem dX8_read_7 : decode cX8_read 7 = .ok (.bipush (-2), 2) := by decide +kernel
theorem dX8_read_9 : decode cX8_read 9 = .ok (.ireturn, 1) := by decide +kernel
theorem dX8_read_10 : decode cX8_read 10 = .ok (.aload_n 0, 1) := by decide +kernel
theorem dX8_read_11 : decode cX8_read 11 = .ok (.getfield 43, 3) := by decide +kernel
theorem dX8_read_14 : decode cX8_read 14 = .ok (.iload_n 1, 1) := by decide +kernel
theorem dX8_read_15 : decode cX8_read 15 = .ok (.baload, 1) := by decide +kernel
theorem dX8_read_16 : decode cX8_read 16 = .ok (.ifCond .ne 9, 3) := by decide +kernel
theorem dX8_read_19 : decode cX8_read 19 = .ok (.aload_n 0, 1) := by decide +kernel
theorem dX8_read_20 : decode cX8_read 20 = .ok (.iconst 1, 1) := by decide +kernel
theorem dX8_read_21 : decode cX8_read 21 = .ok (.invokevirtual 120, 3) := by decide +kernel
theorem dX8_read_24 : decode cX8_read 24 = .ok (.ireturn, 1) := by decide +kernel
theorem dX8_read_25 : decode cX8_read 25 = .ok (.iconst 0, 1) := by decide +kernel
theorem dX8_read_26 : decode cX8_read 26 = .ok (.istore_n 2, 1) := by decide +kernel
theorem dX8_read_27 : decode cX8_read 27 = .ok (.iconst 2, 1) := by decide +kernel
theorem dX8_read_28 : decode cX8_read 28 = .ok (.iload_n 2, 1) := by decide +kernel
theorem dX8_read_29 : decode cX8_read 29 = .ok (.imul, 1) := by decide +kernel
theorem dX8_read_30 : decode cX8_read 30 = .ok (.iconst 1, 1) := by decide +kernel
theorem dX8_read_31 : decode cX8_read 31 = .ok (.iadd, 1) := by decide +kernel
theorem dX8_read_32 : decode cX8_read 32 = .ok (.aload_n 0, 1) := by decide +kernel
theorem dX8_read_33 : decode cX8_read 33 = .ok (.getfield 50, 3) := by decide +kernel
theorem dX8_read_36 : decode cX8_read 36 = .ok (.iload_n 1, 1) := by decide +kernel
theorem dX8_read_37 : decode cX8_read 37 = .ok (.iaload, 1) := by decide +kernel
theorem dX8_read_38 : decode cX8_read 38 = .ok (.if_icmp .ge 44, 3) := by decide +kernel
theorem dX8_read_41 : decode cX8_read 41 = .ok (.aload_n 0, 1) := by decide +kernel
theorem dX8_read_42 : decode cX8_read 42 = .ok (.aload_n 0, 1) := by decide +kernel
theorem dX8_read_43 : decode cX8_read 43 = .ok (.getfield 53, 3) := by decide +kernel
theorem dX8_read_46 : decode cX8_read 46 = .ok (.bipush 48, 2) := by decide +kernel
theorem dX8_read_48 : decode cX8_read 48 = .ok (.iload_n 1, 1) := by decide +kernel
theorem dX8_read_49 : decode cX8_read 49 = .ok (.imul, 1) := by decide +kernel
theorem dX8_read_50 : decode cX8_read 50 = .ok (.iconst 2, 1) := by decide +kernel
theorem dX8_read_51 : decode cX8_read 51 = .ok (.iload_n 2, 1) := by decide +kernel
theorem dX8_read_52 : decode cX8_read 52 = .ok (.imul, 1) := by decide +kernel
theorem dX8_read_53 : decode cX8_read 53 = .ok (.iadd, 1) := by decide +kernel
theorem dX8_read_54 : decode cX8_read 54 = .ok (.iaload, 1) := by decide +kernel
theorem dX8_read_55 : decode cX8_read 55 = .ok (.aload_n 0, 1) := by decide +kernel
theorem dX8_read_56 : decode cX8_read 56 = .ok (.getfield 53, 3) := by decide +kernel
theorem dX8_read_59 : decode cX8_read 59 = .ok (.bipush 48, 2) := by decide +kernel
theorem dX8_read_61 : decode cX8_read 61 = .ok (.iload_n 1, 1) := by decide +kernel
theorem dX8_read_62 : decode cX8_read 62 = .ok (.imul, 1) := by decide +kernel
theorem dX8_read_63 : decode cX8_read 63 = .ok (.iconst 2, 1) := by decide +kernel
theorem dX8_read_64 : decode cX8_read 64 = .ok (.iload_n 2, 1) := by decide +kernel
theorem dX8_read_65 : decode cX8_read 65 = .ok (.imul, 1) := by decide +kernel
theorem dX8_read_66 : decode cX8_read 66 = .ok (.iadd, 1) := by decide +kernel
theorem dX8_read_67 : decode cX8_read 67 = .ok (.iconst 1, 1) := by decide +kernel
theorem dX8_read_68 : decode cX8_read 68 = .ok (.iadd, 1) := by decide +kernel
theorem dX8_read_69 : decode cX8_read 69 = .ok (.iaload, 1) := by decide +kernel
theorem dX8_read_70 : decode cX8_read 70 = .ok (.invokevirtual 123, 3) := by decide +kernel
theorem dX8_read_73 : decode cX8_read 73 = .ok (.ifCond .le 9, 3) := by decide +kernel
theorem dX8_read_76 : decode cX8_read 76 = .ok (.iinc 2 1, 3) := by decide +kernel
theorem dX8_read_79 : decode cX8_read 79 = .ok (.goto (-52), 3) := by decide +kernel
theorem dX8_read_82 : decode cX8_read 82 = .ok (.iload_n 2, 1) := by decide +kernel
theorem dX8_read_83 : decode cX8_read 83 = .ok (.ireturn, 1) := by decide +kernel
theorem dX8_isKnown_0 : decode cX8_isKnown 0 = .ok (.aload_n 0, 1) := by decide +kernel
theorem dX8_isKnown_1 : decode cX8_isKnown 1 = .ok (.getfield 16, 3) := by decide +kernel
theorem dX8_isKnown_4 : decode cX8_isKnown 4 = .ok (.bipush 6, 2) := by decide +kernel
theorem dX8_isKnown_6 : decode cX8_isKnown 6 = .ok (.iload_n 1, 1) := by decide +kernel
theorem dX8_isKnown_7 : decode cX8_isKnown 7 = .ok (.imul, 1) := by decide +kernel
theorem dX8_isKnown_8 : decode cX8_isKnown 8 = .ok (.iconst 2, 1) := by decide +kernel
theorem dX8_isKnown_9 : decode cX8_isKnown 9 = .ok (.iadd, 1) := by decide +kernel
theorem dX8_isKnown_10 : decode cX8_isKnown 10 = .ok (.iaload, 1) := by decide +kernel
theorem dX8_isKnown_11 : decode cX8_isKnown 11 = .ok (.aload_n 0, 1) := by decide +kernel
theorem dX8_isKnown_12 : decode cX8_isKnown 12 = .ok (.getfield 59, 3) := by decide +kernel
theorem dX8_isKnown_15 : decode cX8_isKnown 15 = .ok (.isub, 1) := by decide +kernel
theorem dX8_isKnown_16 : decode cX8_isKnown 16 = .ok (.aload_n 0, 1) := by decide +kernel
theorem dX8_isKnown_17 : decode cX8_isKnown 17 = .ok (.getfield 16, 3) := by decide +kernel
theorem dX8_isKnown_20 : decode cX8_isKnown 20 = .ok (.bipush 6, 2) := by decide +kernel
theorem dX8_isKnown_22 : decode cX8_isKnown 22 = .ok (.iload_n 2, 1) := by decide +kernel
theorem dX8_isKnown_23 : decode cX8_isKnown 23 = .ok (.imul, 1) := by decide +kernel
theorem dX8_isKnown_24 : decode cX8_isKnown 24 = .ok (.iconst 2, 1) := by decide +kernel
theorem dX8_isKnown_25 : decode cX8_isKnown 25 = .ok (.iadd, 1) := by decide +kernel
theorem dX8_isKnown_26 : decode cX8_isKnown 26 = .ok (.iaload, 1) := by decide +kernel
theorem dX8_isKnown_27 : decode cX8_isKnown 27 = .ok (.if_icmp .gt 7, 3) := by decide +kernel
theorem dX8_isKnown_30 : decode cX8_isKnown 30 = .ok (.iconst 1, 1) := by decide +kernel
theorem dX8_isKnown_31 : decode cX8_isKnown 31 = .ok (.goto 4, 3) := by decide +kernel
theorem dX8_isKnown_34 : decode cX8_isKnown 34 = .ok (.iconst 0, 1) := by decide +kernel
theorem dX8_isKnown_35 : decode cX8_isKnown 35 = .ok (.ireturn, 1) := by decide +kernel
theorem dX8_isWritten_0 : decode cX8_isWritten 0 = .ok (.aload_n 0, 1) := by decide +kernel
theorem dX8_isWritten_1 : decode cX8_isWritten 1 = .ok (.getfield 16, 3) := by decide +kernel
theorem dX8_isWritten_4 : decode cX8_isWritten 4 = .ok (.bipush 6, 2) := by decide +kernel
theorem dX8_isWritten_6 : decode cX8_isWritten 6 = .ok (.iload_n 1, 1) := by decide +kernel
theorem dX8_isWritten_7 : decode cX8_isWritten 7 = .ok (.imul, 1) := by decide +kernel
theorem dX8_isWritten_8 : decode cX8_isWritten 8 = .ok (.iconst 4, 1) := by decide +kernel
theorem dX8_isWritten_9 : decode cX8_isWritten 9 = .ok (.iadd, 1) := by decide +kernel
theorem dX8_isWritten_10 : decode cX8_isWritten 10 = .ok (.iaload, 1) := by decide +kernel
theorem dX8_isWritten_11 : decode cX8_isWritten 11 = .ok (.istore_n 3, 1) := by decide +kernel
theorem dX8_isWritten_12 : decode cX8_isWritten 12 = .ok (.aload_n 0, 1) := by decide +kernel
theorem dX8_isWritten_13 : decode cX8_isWritten 13 = .ok (.getfield 16, 3) := by decide +kernel
theorem dX8_isWritten_16 : decode cX8_isWritten 16 = .ok (.bipush 6, 2) := by decide +kernel
theorem dX8_isWritten_18 : decode cX8_isWritten 18 = .ok (.iload_n 1, 1) := by decide +kernel
theorem dX8_isWritten_19 : decode cX8_isWritten 19 = .ok (.imul, 1) := by decide +kernel
theorem dX8_isWritten_20 : decode cX8_isWritten 20 = .ok (.iconst 5, 1) := by decide +kernel
theorem dX8_isWritten_21 : decode cX8_isWritten 21 = .ok (.iadd, 1) := by decide +kernel
theorem dX8_isWritten_22 : decode cX8_isWritten 22 = .ok (.iaload, 1) := by decide +kernel
theorem dX8_isWritten_23 : decode cX8_isWritten 23 = .ok (.istore 4, 2) := by decide +kernel
theorem dX8_isWritten_25 : decode cX8_isWritten 25 = .ok (.iload_n 3, 1) := by decide +kernel
theorem dX8_isWritten_26 : decode cX8_isWritten 26 = .ok (.iconst 2, 1) := by decide +kernel
theorem dX8_isWritten_27 : decode cX8_isWritten 27 = .ok (.if_icmp .ge 13, 3) := by decide +kernel
theorem dX8_isWritten_30 : decode cX8_isWritten 30 = .ok (.iload_n 3, 1) := by decide +kernel
theorem dX8_isWritten_31 : decode cX8_isWritten 31 = .ok (.ifCond .ne 7, 3) := by decide +kernel
theorem dX8_isWritten_34 : decode cX8_isWritten 34 = .ok (.iconst 1, 1) := by decide +kernel
theorem dX8_isWritten_35 : decode cX8_isWritten 35 = .ok (.goto 4, 3) := by decide +kernel
theorem dX8_isWritten_38 : decode cX8_isWritten 38 = .ok (.iconst 0, 1) := by decide +kernel
theorem dX8_isWritten_39 : decode cX8_isWritten 39 = .ok (.ireturn, 1) := by decide +kernel
theorem dX8_isWritten_40 : decode cX8_isWritten 40 = .ok (.iload 4, 2) := by decide +kernel
theorem dX8_isWritten_42 : decode cX8_isWritten 42 = .ok (.aload_n 0, 1) := by decide +kernel
theorem dX8_isWritten_43 : decode cX8_isWritten 43 = .ok (.getfield 86, 3) := by decide +kernel
theorem dX8_isWritten_46 : decode cX8_isWritten 46 = .ok (.if_icmp .ge 26, 3) := by decide +kernel
theorem dX8_isWritten_49 : decode cX8_isWritten 49 = .ok (.iload_n 2, 1) := by decide +kernel
theorem dX8_isWritten_50 : decode cX8_isWritten 50 = .ok (.iload 4, 2) := by decide +kernel
theorem dX8_isWritten_52 : decode cX8_isWritten 52 = .ok (.invokestatic 126, 3) := by decide +kernel
theorem dX8_isWritten_55 : decode cX8_isWritten 55 = .ok (.ifCond .eq 17, 3) := by decide +kernel
theorem dX8_isWritten_58 : decode cX8_isWritten 58 = .ok (.aload_n 0, 1) := by decide +kernel
theorem dX8_isWritten_59 : decode cX8_isWritten 59 = .ok (.iload 4, 2) := by decide +kernel
theorem dX8_isWritten_61 : decode cX8_isWritten 61 = .ok (.iload_n 1, 1) := by decide +kernel
theorem dX8_isWritten_62 : decode cX8_isWritten 62 = .ok (.invokevirtual 130, 3) := by decide +kernel
theorem dX8_isWritten_65 : decode cX8_isWritten 65 = .ok (.ifCond .eq 7, 3) := by decide +kernel
theorem dX8_isWritten_68 : decode cX8_isWritten 68 = .ok (.iconst 1, 1) := by decide +kernel
theorem dX8_isWritten_69 : decode cX8_isWritten 69 = .ok (.goto 4, 3) := by decide +kernel
theorem dX8_isWritten_72 : decode cX8_isWritten 72 = .ok (.iconst 0, 1) := by decide +kernel
theorem dX8_isWritten_73 : decode cX8_isWritten 73 = .ok (.istore 5, 2) := by decide +kernel
theorem dX8_isWritten_75 : decode cX8_isWritten 75 = .ok (.iload_n 3, 1) := by decide +kernel
theorem dX8_isWritten_76 : decode cX8_isWritten 76 = .ok (.iconst 4, 1) := by decide +kernel
theorem dX8_isWritten_77 : decode cX8_isWritten 77 = .ok (.if_icmp .ne 16, 3) := by decide +kernel
theorem dX8_isWritten_80 : decode cX8_isWritten 80 = .ok (.iload 5, 2) := by decide +kernel
theorem dX8_isWritten_82 : decode cX8_isWritten 82 = .ok (.ifCond .ne 7, 3) := by decide +kernel
theorem dX8_isWritten_85 : decode cX8_isWritten 85 = .ok (.iconst 1, 1) := by decide +kernel
theorem dX8_isWritten_86 : decode cX8_isWritten 86 = .ok (.goto 42, 3) := by decide +kernel
theorem dX8_isWritten_89 : decode cX8_isWritten 89 = .ok (.iconst 0, 1) := by decide +kernel
theorem dX8_isWritten_90 : decode cX8_isWritten 90 = .ok (.goto 38, 3) := by decide +kernel
theorem dX8_isWritten_93 : decode cX8_isWritten 93 = .ok (.iload 5, 2) := by decide +kernel
theorem dX8_isWritten_95 : decode cX8_isWritten 95 = .ok (.ifCond .eq 32, 3) := by decide +kernel
theorem dX8_isWritten_98 : decode cX8_isWritten 98 = .ok (.aload_n 0, 1) := by decide +kernel
theorem dX8_isWritten_99 : decode cX8_isWritten 99 = .ok (.getfield 16, 3) := by decide +kernel
theorem dX8_isWritten_102 : decode cX8_isWritten 102 = .ok (.bipush 6, 2) := by decide +kernel
theorem dX8_isWritten_104 : decode cX8_isWritten 104 = .ok (.iload 4, 2) := by decide +kernel
theorem dX8_isWritten_106 : decode cX8_isWritten 106 = .ok (.imul, 1) := by decide +kernel
theorem dX8_isWritten_107 : decode cX8_isWritten 107 = .ok (.iconst 3, 1) := by decide +kernel
theorem dX8_isWritten_108 : decode cX8_isWritten 108 = .ok (.iadd, 1) := by decide +kernel
theorem dX8_isWritten_109 : decode cX8_isWritten 109 = .ok (.iaload, 1) := by decide +kernel
theorem dX8_isWritten_110 : decode cX8_isWritten 110 = .ok (.iload_n 3, 1) := by decide +kernel
theorem dX8_isWritten_111 : decode cX8_isWritten 111 = .ok (.iconst 2, 1) := by decide +kernel
theorem dX8_isWritten_112 : decode cX8_isWritten 112 = .ok (.if_icmp .ne 7, 3) := by decide +kernel
theorem dX8_isWritten_115 : decode cX8_isWritten 115 = .ok (.iconst 1, 1) := by decide +kernel
theorem dX8_isWritten_116 : decode cX8_isWritten 116 = .ok (.goto 4, 3) := by decide +kernel
theorem dX8_isWritten_119 : decode cX8_isWritten 119 = .ok (.iconst 0, 1) := by decide +kernel
theorem dX8_isWritten_120 : decode cX8_isWritten 120 = .ok (.if_icmp .ne 7, 3) := by decide +kernel
theorem dX8_isWritten_123 : decode cX8_isWritten 123 = .ok (.iconst 1, 1) := by decide +kernel
theorem dX8_isWritten_124 : decode cX8_isWritten 124 = .ok (.goto 4, 3) := by decide +kernel
theorem dX8_isWritten_127 : decode cX8_isWritten 127 = .ok (.iconst 0, 1) := by decide +kernel
theorem dX8_isWritten_128 : decode cX8_isWritten 128 = .ok (.ireturn, 1) := by decide +kernel
theorem dX8_next_0 : decode cX8_next 0 = .ok (.iconst 0, 1) := by decide +kernel
theorem dX8_next_1 : decode cX8_next 1 = .ok (.istore_n 3, 1) := by decide +kernel
theorem dX8_next_2 : decode cX8_next 2 = .ok (.iconst 0, 1) := by decide +kernel
theorem dX8_next_3 : decode cX8_next 3 = .ok (.istore 4, 2) := by decide +kernel
theorem dX8_next_5 : decode cX8_next 5 = .ok (.iload 4, 2) := by decide +kernel
theorem dX8_next_7 : decode cX8_next 7 = .ok (.aload_n 0, 1) := by decide +kernel
theorem dX8_next_8 : decode cX8_next 8 = .ok (.getfield 86, 3) := by decide +kernel
theorem dX8_next_11 : decode cX8_next 11 = .ok (.if_icmp .ge 52, 3) := by decide +kernel
theorem dX8_next_14 : decode cX8_next 14 = .ok (.iload_n 2, 1) := by decide +kernel
theorem dX8_next_15 : decode cX8_next 15 = .ok (.iload 4, 2) := by decide +kernel
theorem dX8_next_17 : decode cX8_next 17 = .ok (.invokestatic 126, 3) := by decide +kernel
theorem dX8_next_20 : decode cX8_next 20 = .ok (.ifCond .eq 12, 3) := by decide +kernel
theorem dX8_next_23 : decode cX8_next 23 = .ok (.iload_n 1, 1) := by decide +kernel
theorem dX8_next_24 : decode cX8_next 24 = .ok (.iload 4, 2) := by decide +kernel
theorem dX8_next_26 : decode cX8_next 26 = .ok (.invokestatic 126, 3) := by decide +kernel
theorem dX8_next_29 : decode cX8_next 29 = .ok (.goto 10, 3) := by decide +kernel
theorem dX8_next_32 : decode cX8_next 32 = .ok (.aload_n 0, 1) := by decide +kernel
theorem dX8_next_33 : decode cX8_next 33 = .ok (.iload 4, 2) := by decide +kernel
theorem dX8_next_35 : decode cX8_next 35 = .ok (.iload_n 1, 1) := by decide +kernel
theorem dX8_next_36 : decode cX8_next 36 = .ok (.invokevirtual 133, 3) := by decide +kernel
theorem dX8_next_39 : decode cX8_next 39 = .ok (.istore 5, 2) := by decide +kernel
theorem dX8_next_41 : decode cX8_next 41 = .ok (.iload_n 3, 1) := by decide +kernel
theorem dX8_next_42 : decode cX8_next 42 = .ok (.iload 5, 2) := by decide +kernel
theorem dX8_next_44 : decode cX8_next 44 = .ok (.ifCond .eq 10, 3) := by decide +kernel
theorem dX8_next_47 : decode cX8_next 47 = .ok (.iconst 1, 1) := by decide +kernel
theorem dX8_next_48 : decode cX8_next 48 = .ok (.iload 4, 2) := by decide +kernel
theorem dX8_next_50 : decode cX8_next 50 = .ok (.ishl, 1) := by decide +kernel
theorem dX8_next_51 : decode cX8_next 51 = .ok (.goto 4, 3) := by decide +kernel
theorem dX8_next_54 : decode cX8_next 54 = .ok (.iconst 0, 1) := by decide +kernel
theorem dX8_next_55 : decode cX8_next 55 = .ok (.ior, 1) := by decide +kernel
theorem dX8_next_56 : decode cX8_next 56 = .ok (.istore_n 3, 1) := by decide +kernel
theorem dX8_next_57 : decode cX8_next 57 = .ok (.iinc 4 1, 3) := by decide +kernel
theorem dX8_next_60 : decode cX8_next 60 = .ok (.goto (-55), 3) := by decide +kernel
theorem dX8_next_63 : decode cX8_next 63 = .ok (.iload_n 3, 1) := by decide +kernel
theorem dX8_next_64 : decode cX8_next 64 = .ok (.ireturn, 1) := by decide +kernel
theorem dX8_there_0 : decode cX8_there 0 = .ok (.aload_n 0, 1) := by decide +kernel
theorem dX8_there_1 : decode cX8_there 1 = .ok (.invokevirtual 102, 3) := by decide +kernel
theorem dX8_there_4 : decode cX8_there 4 = .ok (.iconst 1, 1) := by decide +kernel
theorem dX8_there_5 : decode cX8_there 5 = .ok (.aload_n 0, 1) := by decide +kernel
theorem dX8_there_6 : decode cX8_there 6 = .ok (.getfield 86, 3) := by decide +kernel
theorem dX8_there_9 : decode cX8_there 9 = .ok (.ishl, 1) := by decide +kernel
theorem dX8_there_10 : decode cX8_there 10 = .ok (.iconst 1, 1) := by decide +kernel
theorem dX8_there_11 : decode cX8_there 11 = .ok (.isub, 1) := by decide +kernel
theorem dX8_there_12 : decode cX8_there 12 = .ok (.ireturn, 1) := by decide +kernel
theorem dX8_brokenBy_0 : decode cX8_brokenBy 0 = .ok (.iload_n 1, 1) := by decide +kernel
theorem dX8_brokenBy_1 : decode cX8_brokenBy 1 = .ok (.aload_n 0, 1) := by decide +kernel
theorem dX8_brokenBy_2 : decode cX8_brokenBy 2 = .ok (.iload_n 1, 1) := by decide +kernel
theorem dX8_brokenBy_3 : decode cX8_brokenBy 3 = .ok (.iload_n 2, 1) := by decide +kernel
theorem dX8_brokenBy_4 : decode cX8_brokenBy 4 = .ok (.invokevirtual 136, 3) := by decide +kernel
theorem dX8_brokenBy_7 : decode cX8_brokenBy 7 = .ok (.ixor, 1) := by decide +kernel
theorem dX8_brokenBy_8 : decode cX8_brokenBy 8 = .ok (.ireturn, 1) := by decide +kernel
theorem dX8_brokenOf_0 : decode cX8_brokenOf 0 = .ok (.aload_n 0, 1) := by decide +kernel
theorem dX8_brokenOf_1 : decode cX8_brokenOf 1 = .ok (.iload_n 1, 1) := by decide +kernel
theorem dX8_brokenOf_2 : decode cX8_brokenOf 2 = .ok (.aload_n 0, 1) := by decide +kernel
theorem dX8_brokenOf_3 : decode cX8_brokenOf 3 = .ok (.invokevirtual 139, 3) := by decide +kernel
theorem dX8_brokenOf_6 : decode cX8_brokenOf 6 = .ok (.iand, 1) := by decide +kernel
theorem dX8_brokenOf_7 : decode cX8_brokenOf 7 = .ok (.aload_n 0, 1) := by decide +kernel
theorem dX8_brokenOf_8 : decode cX8_brokenOf 8 = .ok (.getfield 111, 3) := by decide +kernel
theorem dX8_brokenOf_11 : decode cX8_brokenOf 11 = .ok (.invokevirtual 142, 3) := by decide +kernel
theorem dX8_brokenOf_14 : decode cX8_brokenOf 14 = .ok (.ireturn, 1) := by decide +kernel
theorem dX8_broken_0 : decode cX8_broken 0 = .ok (.iload_n 1, 1) := by decide +kernel
theorem dX8_broken_1 : decode cX8_broken 1 = .ok (.invokestatic 145, 3) := by decide +kernel
theorem dX8_broken_4 : decode cX8_broken 4 = .ok (.ifCond .eq 11, 3) := by decide +kernel
theorem dX8_broken_7 : decode cX8_broken 7 = .ok (.aload_n 0, 1) := by decide +kernel
theorem dX8_broken_8 : decode cX8_broken 8 = .ok (.iload_n 1, 1) := by decide +kernel
theorem dX8_broken_9 : decode cX8_broken 9 = .ok (.invokevirtual 148, 3) := by decide +kernel
theorem dX8_broken_12 : decode cX8_broken 12 = .ok (.goto 5, 3) := by decide +kernel
theorem dX8_broken_15 : decode cX8_broken 15 = .ok (.bipush (-2), 2) := by decide +kernel
theorem dX8_broken_17 : decode cX8_broken 17 = .ok (.ireturn, 1) := by decide +kernel
theorem dX8_rowsOf_0 : decode cX8_rowsOf 0 = .ok (.aload_n 0, 1) := by decide +kernel
theorem dX8_rowsOf_1 : decode cX8_rowsOf 1 = .ok (.invokevirtual 139, 3) := by decide +kernel
theorem dX8_rowsOf_4 : decode cX8_rowsOf 4 = .ok (.istore_n 2, 1) := by decide +kernel
theorem dX8_rowsOf_5 : decode cX8_rowsOf 5 = .ok (.iconst 0, 1) := by decide +kernel
theorem dX8_rowsOf_6 : decode cX8_rowsOf 6 = .ok (.istore_n 3, 1) := by decide +kernel
theorem dX8_rowsOf_7 : decode cX8_rowsOf 7 = .ok (.iconst 0, 1) := by decide +kernel
theorem dX8_rowsOf_8 : decode cX8_rowsOf 8 = .ok (.istore 4, 2) := by decide +kernel
theorem dX8_rowsOf_10 : decode cX8_rowsOf 10 = .ok (.iload 4, 2) := by decide +kernel
theorem dX8_rowsOf_12 : decode cX8_rowsOf 12 = .ok (.iload_n 2, 1) := by decide +kernel
theorem dX8_rowsOf_13 : decode cX8_rowsOf 13 = .ok (.if_icmp .gt 33, 3) := by decide +kernel
theorem dX8_rowsOf_16 : decode cX8_rowsOf 16 = .ok (.aload_n 0, 1) := by decide +kernel
theorem dX8_rowsOf_17 : decode cX8_rowsOf 17 = .ok (.iload 4, 2) := by decide +kernel
theorem dX8_rowsOf_19 : decode cX8_rowsOf 19 = .ok (.aload_n 0, 1) := by decide +kernel
theorem dX8_rowsOf_20 : decode cX8_rowsOf 20 = .ok (.getfield 111, 3) := by decide +kernel
theorem dX8_rowsOf_23 : decode cX8_rowsOf 23 = .ok (.invokevirtual 142, 3) := by decide +kernel
theorem dX8_rowsOf_26 : decode cX8_rowsOf 26 = .ok (.ifCond .ne 14, 3) := by decide +kernel
theorem dX8_rowsOf_29 : decode cX8_rowsOf 29 = .ok (.iload_n 3, 1) := by decide +kernel
theorem dX8_rowsOf_30 : decode cX8_rowsOf 30 = .ok (.iload_n 1, 1) := by decide +kernel
theorem dX8_rowsOf_31 : decode cX8_rowsOf 31 = .ok (.if_icmp .ne 6, 3) := by decide +kernel
theorem dX8_rowsOf_34 : decode cX8_rowsOf 34 = .ok (.iload 4, 2) := by decide +kernel
theorem dX8_rowsOf_36 : decode cX8_rowsOf 36 = .ok (.ireturn, 1) := by decide +kernel
theorem dX8_rowsOf_37 : decode cX8_rowsOf 37 = .ok (.iinc 3 1, 3) := by decide +kernel
theorem dX8_rowsOf_40 : decode cX8_rowsOf 40 = .ok (.iinc 4 1, 3) := by decide +kernel
theorem dX8_rowsOf_43 : decode cX8_rowsOf 43 = .ok (.goto (-33), 3) := by decide +kernel
theorem dX8_rowsOf_46 : decode cX8_rowsOf 46 = .ok (.iload_n 1, 1) := by decide +kernel
theorem dX8_rowsOf_47 : decode cX8_rowsOf 47 = .ok (.iconst (-1), 1) := by decide +kernel
theorem dX8_rowsOf_48 : decode cX8_rowsOf 48 = .ok (.if_icmp .ne 7, 3) := by decide +kernel
theorem dX8_rowsOf_51 : decode cX8_rowsOf 51 = .ok (.iload_n 3, 1) := by decide +kernel
theorem dX8_rowsOf_52 : decode cX8_rowsOf 52 = .ok (.goto 4, 3) := by decide +kernel
theorem dX8_rowsOf_55 : decode cX8_rowsOf 55 = .ok (.iconst (-1), 1) := by decide +kernel
theorem dX8_rowsOf_56 : decode cX8_rowsOf 56 = .ok (.ireturn, 1) := by decide +kernel
theorem dX8_rows_0 : decode cX8_rows 0 = .ok (.iload_n 1, 1) := by decide +kernel
theorem dX8_rows_1 : decode cX8_rows 1 = .ok (.iconst (-1), 1) := by decide +kernel
theorem dX8_rows_2 : decode cX8_rows 2 = .ok (.sipush 1023, 3) := by decide +kernel
theorem dX8_rows_5 : decode cX8_rows 5 = .ok (.invokestatic 66, 3) := by decide +kernel
theorem dX8_rows_8 : decode cX8_rows 8 = .ok (.ifCond .eq 11, 3) := by decide +kernel
theorem dX8_rows_11 : decode cX8_rows 11 = .ok (.aload_n 0, 1) := by decide +kernel
theorem dX8_rows_12 : decode cX8_rows 12 = .ok (.iload_n 1, 1) := by decide +kernel
theorem dX8_rows_13 : decode cX8_rows 13 = .ok (.invokevirtual 151, 3) := by decide +kernel
theorem dX8_rows_16 : decode cX8_rows 16 = .ok (.goto 5, 3) := by decide +kernel
theorem dX8_rows_19 : decode cX8_rows 19 = .ok (.bipush (-2), 2) := by decide +kernel
theorem dX8_rows_21 : decode cX8_rows 21 = .ok (.ireturn, 1) := by decide +kernel
theorem dX8_sureOf_0 : decode cX8_sureOf 0 = .ok (.aload_n 0, 1) := by decide +kernel
theorem dX8_sureOf_1 : decode cX8_sureOf 1 = .ok (.invokevirtual 139, 3) := by decide +kernel
theorem dX8_sureOf_4 : decode cX8_sureOf 4 = .ok (.istore_n 2, 1) := by decide +kernel
theorem dX8_sureOf_5 : decode cX8_sureOf 5 = .ok (.iload_n 2, 1) := by decide +kernel
theorem dX8_sureOf_6 : decode cX8_sureOf 6 = .ok (.istore_n 3, 1) := by decide +kernel
theorem dX8_sureOf_7 : decode cX8_sureOf 7 = .ok (.iconst 0, 1) := by decide +kernel
theorem dX8_sureOf_8 : decode cX8_sureOf 8 = .ok (.istore 4, 2) := by decide +kernel
theorem dX8_sureOf_10 : decode cX8_sureOf 10 = .ok (.iload 4, 2) := by decide +kernel
theorem dX8_sureOf_12 : decode cX8_sureOf 12 = .ok (.iload_n 2, 1) := by decide +kernel
theorem dX8_sureOf_13 : decode cX8_sureOf 13 = .ok (.if_icmp .gt 43, 3) := by decide +kernel
theorem dX8_sureOf_16 : decode cX8_sureOf 16 = .ok (.iload_n 3, 1) := by decide +kernel
theorem dX8_sureOf_17 : decode cX8_sureOf 17 = .ok (.aload_n 0, 1) := by decide +kernel
theorem dX8_sureOf_18 : decode cX8_sureOf 18 = .ok (.iload 4, 2) := by decide +kernel
theorem dX8_sureOf_20 : decode cX8_sureOf 20 = .ok (.aload_n 0, 1) := by decide +kernel
theorem dX8_sureOf_21 : decode cX8_sureOf 21 = .ok (.getfield 111, 3) := by decide +kernel
theorem dX8_sureOf_24 : decode cX8_sureOf 24 = .ok (.invokevirtual 142, 3) := by decide +kernel
theorem dX8_sureOf_27 : decode cX8_sureOf 27 = .ok (.ifCond .eq 7, 3) := by decide +kernel
theorem dX8_sureOf_30 : decode cX8_sureOf 30 = .ok (.iload_n 2, 1) := by decide +kernel
theorem dX8_sureOf_31 : decode cX8_sureOf 31 = .ok (.goto 17, 3) := by decide +kernel
theorem dX8_sureOf_34 : decode cX8_sureOf 34 = .ok (.iload_n 1, 1) := by decide +kernel
theorem dX8_sureOf_35 : decode cX8_sureOf 35 = .ok (.iconst 1, 1) := by decide +kernel
theorem dX8_sureOf_36 : decode cX8_sureOf 36 = .ok (.if_icmp .ne 8, 3) := by decide +kernel
theorem dX8_sureOf_39 : decode cX8_sureOf 39 = .ok (.iload 4, 2) := by decide +kernel
theorem dX8_sureOf_41 : decode cX8_sureOf 41 = .ok (.goto 7, 3) := by decide +kernel
theorem dX8_sureOf_44 : decode cX8_sureOf 44 = .ok (.iload 4, 2) := by decide +kernel
theorem dX8_sureOf_46 : decode cX8_sureOf 46 = .ok (.iconst (-1), 1) := by decide +kernel
theorem dX8_sureOf_47 : decode cX8_sureOf 47 = .ok (.ixor, 1) := by decide +kernel
theorem dX8_sureOf_48 : decode cX8_sureOf 48 = .ok (.iand, 1) := by decide +kernel
theorem dX8_sureOf_49 : decode cX8_sureOf 49 = .ok (.istore_n 3, 1) := by decide +kernel
theorem dX8_sureOf_50 : decode cX8_sureOf 50 = .ok (.iinc 4 1, 3) := by decide +kernel
theorem dX8_sureOf_53 : decode cX8_sureOf 53 = .ok (.goto (-43), 3) := by decide +kernel
theorem dX8_sureOf_56 : decode cX8_sureOf 56 = .ok (.iload_n 3, 1) := by decide +kernel
theorem dX8_sureOf_57 : decode cX8_sureOf 57 = .ok (.ireturn, 1) := by decide +kernel
theorem dX8_sure_0 : decode cX8_sure 0 = .ok (.iload_n 1, 1) := by decide +kernel
theorem dX8_sure_1 : decode cX8_sure 1 = .ok (.iconst 0, 1) := by decide +kernel
theorem dX8_sure_2 : decode cX8_sure 2 = .ok (.iconst 1, 1) := by decide +kernel
theorem dX8_sure_3 : decode cX8_sure 3 = .ok (.invokestatic 66, 3) := by decide +kernel
theorem dX8_sure_6 : decode cX8_sure 6 = .ok (.ifCond .eq 11, 3) := by decide +kernel
theorem dX8_sure_9 : decode cX8_sure 9 = .ok (.aload_n 0, 1) := by decide +kernel
theorem dX8_sure_10 : decode cX8_sure 10 = .ok (.iload_n 1, 1) := by decide +kernel
theorem dX8_sure_11 : decode cX8_sure 11 = .ok (.invokevirtual 154, 3) := by decide +kernel
theorem dX8_sure_14 : decode cX8_sure 14 = .ok (.goto 5, 3) := by decide +kernel
theorem dX8_sure_17 : decode cX8_sure 17 = .ok (.bipush (-2), 2) := by decide +kernel
theorem dX8_sure_19 : decode cX8_sure 19 = .ok (.ireturn, 1) := by decide +kernel
theorem dX8_cannotOf_0 : decode cX8_cannotOf 0 = .ok (.aload_n 0, 1) := by decide +kernel
theorem dX8_cannotOf_1 : decode cX8_cannotOf 1 = .ok (.invokevirtual 139, 3) := by decide +kernel
theorem dX8_cannotOf_4 : decode cX8_cannotOf 4 = .ok (.istore_n 2, 1) := by decide +kernel
theorem dX8_cannotOf_5 : decode cX8_cannotOf 5 = .ok (.iconst 0, 1) := by decide +kernel
theorem dX8_cannotOf_6 : decode cX8_cannotOf 6 = .ok (.istore_n 3, 1) := by decide +kernel
theorem dX8_cannotOf_7 : decode cX8_cannotOf 7 = .ok (.iload_n 3, 1) := by decide +kernel
theorem dX8_cannotOf_8 : decode cX8_cannotOf 8 = .ok (.iload_n 2, 1) := by decide +kernel
theorem dX8_cannotOf_9 : decode cX8_cannotOf 9 = .ok (.if_icmp .gt 24, 3) := by decide +kernel
theorem dX8_cannotOf_12 : decode cX8_cannotOf 12 = .ok (.aload_n 0, 1) := by decide +kernel
theorem dX8_cannotOf_13 : decode cX8_cannotOf 13 = .ok (.getfield 28, 3) := by decide +kernel
theorem dX8_cannotOf_16 : decode cX8_cannotOf 16 = .ok (.iload_n 3, 1) := by decide +kernel
theorem dX8_cannotOf_17 : decode cX8_cannotOf 17 = .ok (.aload_n 0, 1) := by decide +kernel
theorem dX8_cannotOf_18 : decode cX8_cannotOf 18 = .ok (.iload_n 3, 1) := by decide +kernel
theorem dX8_cannotOf_19 : decode cX8_cannotOf 19 = .ok (.aload_n 0, 1) := by decide +kernel
theorem dX8_cannotOf_20 : decode cX8_cannotOf 20 = .ok (.getfield 111, 3) := by decide +kernel
theorem dX8_cannotOf_23 : decode cX8_cannotOf 23 = .ok (.invokevirtual 142, 3) := by decide +kernel
theorem dX8_cannotOf_26 : decode cX8_cannotOf 26 = .ok (.iastore, 1) := by decide +kernel
theorem dX8_cannotOf_27 : decode cX8_cannotOf 27 = .ok (.iinc 3 1, 3) := by decide +kernel
theorem dX8_cannotOf_30 : decode cX8_cannotOf 30 = .ok (.goto (-23), 3) := by decide +kernel
theorem dX8_cannotOf_33 : decode cX8_cannotOf 33 = .ok (.iconst (-1), 1) := by decide +kernel
theorem dX8_cannotOf_34 : decode cX8_cannotOf 34 = .ok (.istore_n 3, 1) := by decide +kernel
theorem dX8_cannotOf_35 : decode cX8_cannotOf 35 = .ok (.iconst 0, 1) := by decide +kernel
theorem dX8_cannotOf_36 : decode cX8_cannotOf 36 = .ok (.istore 4, 2) := by decide +kernel
theorem dX8_cannotOf_38 : decode cX8_cannotOf 38 = .ok (.iload 4, 2) := by decide +kernel
theorem dX8_cannotOf_40 : decode cX8_cannotOf 40 = .ok (.iload_n 2, 1) := by decide +kernel
theorem dX8_cannotOf_41 : decode cX8_cannotOf 41 = .ok (.if_icmp .gt 85, 3) := by decide +kernel
theorem dX8_cannotOf_44 : decode cX8_cannotOf 44 = .ok (.iload_n 3, 1) := by decide +kernel
theorem dX8_cannotOf_45 : decode cX8_cannotOf 45 = .ok (.iconst (-1), 1) := by decide +kernel
theorem dX8_cannotOf_46 : decode cX8_cannotOf 46 = .ok (.if_icmp .eq 15, 3) := by decide +kernel
theorem dX8_cannotOf_49 : decode cX8_cannotOf 49 = .ok (.iload 4, 2) := by decide +kernel
theorem dX8_cannotOf_51 : decode cX8_cannotOf 51 = .ok (.invokestatic 157, 3) := by decide +kernel
theorem dX8_cannotOf_54 : decode cX8_cannotOf 54 = .ok (.iload_n 3, 1) := by decide +kernel
theorem dX8_cannotOf_55 : decode cX8_cannotOf 55 = .ok (.invokestatic 157, 3) := by decide +kernel
theorem dX8_cannotOf_58 : decode cX8_cannotOf 58 = .ok (.if_icmp .ge 7, 3) := by decide +kernel
theorem dX8_cannotOf_61 : decode cX8_cannotOf 61 = .ok (.iconst 1, 1) := by decide +kernel
theorem dX8_cannotOf_62 : decode cX8_cannotOf 62 = .ok (.goto 4, 3) := by decide +kernel
theorem dX8_cannotOf_65 : decode cX8_cannotOf 65 = .ok (.iconst 0, 1) := by decide +kernel
theorem dX8_cannotOf_66 : decode cX8_cannotOf 66 = .ok (.istore 5, 2) := by decide +kernel
theorem dX8_cannotOf_68 : decode cX8_cannotOf 68 = .ok (.iconst 0, 1) := by decide +kernel
theorem dX8_cannotOf_69 : decode cX8_cannotOf 69 = .ok (.istore 6, 2) := by decide +kernel
theorem dX8_cannotOf_71 : decode cX8_cannotOf 71 = .ok (.iload 6, 2) := by decide +kernel
theorem dX8_cannotOf_73 : decode cX8_cannotOf 73 = .ok (.iload_n 2, 1) := by decide +kernel
theorem dX8_cannotOf_74 : decode cX8_cannotOf 74 = .ok (.if_icmp .gt 34, 3) := by decide +kernel
theorem dX8_cannotOf_77 : decode cX8_cannotOf 77 = .ok (.iload 5, 2) := by decide +kernel
theorem dX8_cannotOf_79 : decode cX8_cannotOf 79 = .ok (.ifCond .eq 29, 3) := by decide +kernel
theorem dX8_cannotOf_82 : decode cX8_cannotOf 82 = .ok (.aload_n 0, 1) := by decide +kernel
theorem dX8_cannotOf_83 : decode cX8_cannotOf 83 = .ok (.getfield 28, 3) := by decide +kernel
theorem dX8_cannotOf_86 : decode cX8_cannotOf 86 = .ok (.iload 6, 2) := by decide +kernel
theorem dX8_cannotOf_88 : decode cX8_cannotOf 88 = .ok (.iaload, 1) := by decide +kernel
theorem dX8_cannotOf_89 : decode cX8_cannotOf 89 = .ok (.iload 4, 2) := by decide +kernel
theorem dX8_cannotOf_91 : decode cX8_cannotOf 91 = .ok (.iand, 1) := by decide +kernel
theorem dX8_cannotOf_92 : decode cX8_cannotOf 92 = .ok (.ifCond .eq 7, 3) := by decide +kernel
theorem dX8_cannotOf_95 : decode cX8_cannotOf 95 = .ok (.iconst 1, 1) := by decide +kernel
theorem dX8_cannotOf_96 : decode cX8_cannotOf 96 = .ok (.goto 4, 3) := by decide +kernel
theorem dX8_cannotOf_99 : decode cX8_cannotOf 99 = .ok (.iconst 0, 1) := by decide +kernel
theorem dX8_cannotOf_100 : decode cX8_cannotOf 100 = .ok (.istore 5, 2) := by decide +kernel
theorem dX8_cannotOf_102 : decode cX8_cannotOf 102 = .ok (.iinc 6 1, 3) := by decide +kernel
theorem dX8_cannotOf_105 : decode cX8_cannotOf 105 = .ok (.goto (-34), 3) := by decide +kernel
theorem dX8_cannotOf_108 : decode cX8_cannotOf 108 = .ok (.iload 5, 2) := by decide +kernel
theorem dX8_cannotOf_110 : decode cX8_cannotOf 110 = .ok (.ifCond .eq 8, 3) := by decide +kernel
theorem dX8_cannotOf_113 : decode cX8_cannotOf 113 = .ok (.iload 4, 2) := by decide +kernel
theorem dX8_cannotOf_115 : decode cX8_cannotOf 115 = .ok (.goto 4, 3) := by decide +kernel
theorem dX8_cannotOf_118 : decode cX8_cannotOf 118 = .ok (.iload_n 3, 1) := by decide +kernel
theorem dX8_cannotOf_119 : decode cX8_cannotOf 119 = .ok (.istore_n 3, 1) := by decide +kernel
theorem dX8_cannotOf_120 : decode cX8_cannotOf 120 = .ok (.iinc 4 1, 3) := by decide +kernel
theorem dX8_cannotOf_123 : decode cX8_cannotOf 123 = .ok (.goto (-85), 3) := by decide +kernel
theorem dX8_cannotOf_126 : decode cX8_cannotOf 126 = .ok (.iload_n 3, 1) := by decide +kernel
theorem dX8_cannotOf_127 : decode cX8_cannotOf 127 = .ok (.iconst (-1), 1) := by decide +kernel
theorem dX8_cannotOf_128 : decode cX8_cannotOf 128 = .ok (.if_icmp .eq 8, 3) := by decide +kernel
theorem dX8_cannotOf_131 : decode cX8_cannotOf 131 = .ok (.iload_n 1, 1) := by decide +kernel
theorem dX8_cannotOf_132 : decode cX8_cannotOf 132 = .ok (.iconst 1, 1) := by decide +kernel
theorem dX8_cannotOf_133 : decode cX8_cannotOf 133 = .ok (.if_icmp .ne 7, 3) := by decide +kernel
theorem dX8_cannotOf_136 : decode cX8_cannotOf 136 = .ok (.iload_n 3, 1) := by decide +kernel
theorem dX8_cannotOf_137 : decode cX8_cannotOf 137 = .ok (.goto 7, 3) := by decide +kernel
theorem dX8_cannotOf_140 : decode cX8_cannotOf 140 = .ok (.iload_n 3, 1) := by decide +kernel
theorem dX8_cannotOf_141 : decode cX8_cannotOf 141 = .ok (.invokestatic 157, 3) := by decide +kernel
theorem dX8_cannotOf_144 : decode cX8_cannotOf 144 = .ok (.ireturn, 1) := by decide +kernel
theorem dX8_cannot_0 : decode cX8_cannot 0 = .ok (.iload_n 1, 1) := by decide +kernel
theorem dX8_cannot_1 : decode cX8_cannot 1 = .ok (.iconst 0, 1) := by decide +kernel
theorem dX8_cannot_2 : decode cX8_cannot 2 = .ok (.iconst 1, 1) := by decide +kernel
theorem dX8_cannot_3 : decode cX8_cannot 3 = .ok (.invokestatic 66, 3) := by decide +kernel
theorem dX8_cannot_6 : decode cX8_cannot 6 = .ok (.ifCond .eq 11, 3) := by decide +kernel
theorem dX8_cannot_9 : decode cX8_cannot 9 = .ok (.aload_n 0, 1) := by decide +kernel
theorem dX8_cannot_10 : decode cX8_cannot 10 = .ok (.iload_n 1, 1) := by decide +kernel
theorem dX8_cannot_11 : decode cX8_cannot 11 = .ok (.invokevirtual 160, 3) := by decide +kernel
theorem dX8_cannot_14 : decode cX8_cannot 14 = .ok (.goto 5, 3) := by decide +kernel
theorem dX8_cannot_17 : decode cX8_cannot 17 = .ok (.bipush (-2), 2) := by decide +kernel
theorem dX8_cannot_19 : decode cX8_cannot 19 = .ok (.ireturn, 1) := by decide +kernel
theorem dX8_freedOf_0 : decode cX8_freedOf 0 = .ok (.aload_n 0, 1) := by decide +kernel
theorem dX8_freedOf_1 : decode cX8_freedOf 1 = .ok (.invokevirtual 139, 3) := by decide +kernel
theorem dX8_freedOf_4 : decode cX8_freedOf 4 = .ok (.istore_n 2, 1) := by decide +kernel
theorem dX8_freedOf_5 : decode cX8_freedOf 5 = .ok (.iload_n 2, 1) := by decide +kernel
theorem dX8_freedOf_6 : decode cX8_freedOf 6 = .ok (.istore_n 3, 1) := by decide +kernel
theorem dX8_freedOf_7 : decode cX8_freedOf 7 = .ok (.iconst 0, 1) := by decide +kernel
theorem dX8_freedOf_8 : decode cX8_freedOf 8 = .ok (.istore 4, 2) := by decide +kernel
theorem dX8_freedOf_10 : decode cX8_freedOf 10 = .ok (.iload 4, 2) := by decide +kernel
theorem dX8_freedOf_12 : decode cX8_freedOf 12 = .ok (.iload_n 2, 1) := by decide +kernel
theorem dX8_freedOf_13 : decode cX8_freedOf 13 = .ok (.if_icmp .gt 70, 3) := by decide +kernel
theorem dX8_freedOf_16 : decode cX8_freedOf 16 = .ok (.aload_n 0, 1) := by decide +kernel
theorem dX8_freedOf_17 : decode cX8_freedOf 17 = .ok (.iload 4, 2) := by decide +kernel
theorem dX8_freedOf_19 : decode cX8_freedOf 19 = .ok (.aload_n 0, 1) := by decide +kernel
theorem dX8_freedOf_20 : decode cX8_freedOf 20 = .ok (.getfield 111, 3) := by decide +kernel
theorem dX8_freedOf_23 : decode cX8_freedOf 23 = .ok (.invokevirtual 142, 3) := by decide +kernel
theorem dX8_freedOf_26 : decode cX8_freedOf 26 = .ok (.istore 5, 2) := by decide +kernel
theorem dX8_freedOf_28 : decode cX8_freedOf 28 = .ok (.iload 5, 2) := by decide +kernel
theorem dX8_freedOf_30 : decode cX8_freedOf 30 = .ok (.invokestatic 157, 3) := by decide +kernel
theorem dX8_freedOf_33 : decode cX8_freedOf 33 = .ok (.iload_n 3, 1) := by decide +kernel
theorem dX8_freedOf_34 : decode cX8_freedOf 34 = .ok (.invokestatic 157, 3) := by decide +kernel
theorem dX8_freedOf_37 : decode cX8_freedOf 37 = .ok (.if_icmp .lt 21, 3) := by decide +kernel
theorem dX8_freedOf_40 : decode cX8_freedOf 40 = .ok (.iload 5, 2) := by decide +kernel
theorem dX8_freedOf_42 : decode cX8_freedOf 42 = .ok (.invokestatic 157, 3) := by decide +kernel
theorem dX8_freedOf_45 : decode cX8_freedOf 45 = .ok (.iload_n 3, 1) := by decide +kernel
theorem dX8_freedOf_46 : decode cX8_freedOf 46 = .ok (.invokestatic 157, 3) := by decide +kernel
theorem dX8_freedOf_49 : decode cX8_freedOf 49 = .ok (.if_icmp .ne 13, 3) := by decide +kernel
theorem dX8_freedOf_52 : decode cX8_freedOf 52 = .ok (.iload 5, 2) := by decide +kernel
theorem dX8_freedOf_54 : decode cX8_freedOf 54 = .ok (.iload_n 3, 1) := by decide +kernel
theorem dX8_freedOf_55 : decode cX8_freedOf 55 = .ok (.if_icmp .ge 7, 3) := by decide +kernel
theorem dX8_freedOf_58 : decode cX8_freedOf 58 = .ok (.iconst 1, 1) := by decide +kernel
theorem dX8_freedOf_59 : decode cX8_freedOf 59 = .ok (.goto 4, 3) := by decide +kernel
theorem dX8_freedOf_62 : decode cX8_freedOf 62 = .ok (.iconst 0, 1) := by decide +kernel
theorem dX8_freedOf_63 : decode cX8_freedOf 63 = .ok (.istore 6, 2) := by decide +kernel
theorem dX8_freedOf_65 : decode cX8_freedOf 65 = .ok (.iload 6, 2) := by decide +kernel
theorem dX8_freedOf_67 : decode cX8_freedOf 67 = .ok (.ifCond .eq 8, 3) := by decide +kernel
theorem dX8_freedOf_70 : decode cX8_freedOf 70 = .ok (.iload 5, 2) := by decide +kernel
theorem dX8_freedOf_72 : decode cX8_freedOf 72 = .ok (.goto 4, 3) := by decide +kernel
theorem dX8_freedOf_75 : decode cX8_freedOf 75 = .ok (.iload_n 3, 1) := by decide +kernel
theorem dX8_freedOf_76 : decode cX8_freedOf 76 = .ok (.istore_n 3, 1) := by decide +kernel
theorem dX8_freedOf_77 : decode cX8_freedOf 77 = .ok (.iinc 4 1, 3) := by decide +kernel
theorem dX8_freedOf_80 : decode cX8_freedOf 80 = .ok (.goto (-70), 3) := by decide +kernel
theorem dX8_freedOf_83 : decode cX8_freedOf 83 = .ok (.iload_n 1, 1) := by decide +kernel
theorem dX8_freedOf_84 : decode cX8_freedOf 84 = .ok (.ifCond .ne 10, 3) := by decide +kernel
theorem dX8_freedOf_87 : decode cX8_freedOf 87 = .ok (.iload_n 3, 1) := by decide +kernel
theorem dX8_freedOf_88 : decode cX8_freedOf 88 = .ok (.invokestatic 157, 3) := by decide +kernel
theorem dX8_freedOf_91 : decode cX8_freedOf 91 = .ok (.goto 4, 3) := by decide +kernel
theorem dX8_freedOf_94 : decode cX8_freedOf 94 = .ok (.iload_n 3, 1) := by decide +kernel
theorem dX8_freedOf_95 : decode cX8_freedOf 95 = .ok (.ireturn, 1) := by decide +kernel
theorem dX8_freed_0 : decode cX8_freed 0 = .ok (.iload_n 1, 1) := by decide +kernel
theorem dX8_freed_1 : decode cX8_freed 1 = .ok (.iconst 0, 1) := by decide +kernel
theorem dX8_freed_2 : decode cX8_freed 2 = .ok (.iconst 1, 1) := by decide +kernel
theorem dX8_freed_3 : decode cX8_freed 3 = .ok (.invokestatic 66, 3) := by decide +kernel
theorem dX8_freed_6 : decode cX8_freed 6 = .ok (.ifCond .eq 11, 3) := by decide +kernel
theorem dX8_freed_9 : decode cX8_freed 9 = .ok (.aload_n 0, 1) := by decide +kernel
theorem dX8_freed_10 : decode cX8_freed 10 = .ok (.iload_n 1, 1) := by decide +kernel
theorem dX8_freed_11 : decode cX8_freed 11 = .ok (.invokevirtual 163, 3) := by decide +kernel
theorem dX8_freed_14 : decode cX8_freed 14 = .ok (.goto 5, 3) := by decide +kernel
theorem dX8_freed_17 : decode cX8_freed 17 = .ok (.bipush (-2), 2) := by decide +kernel
theorem dX8_freed_19 : decode cX8_freed 19 = .ok (.ireturn, 1) := by decide +kernel
theorem dX8_nearestOf_0 : decode cX8_nearestOf 0 = .ok (.aload_n 0, 1) := by decide +kernel
theorem dX8_nearestOf_1 : decode cX8_nearestOf 1 = .ok (.invokevirtual 139, 3) := by decide +kernel
theorem dX8_nearestOf_4 : decode cX8_nearestOf 4 = .ok (.istore_n 2, 1) := by decide +kernel
theorem dX8_nearestOf_5 : decode cX8_nearestOf 5 = .ok (.iconst (-1), 1) := by decide +kernel
theorem dX8_nearestOf_6 : decode cX8_nearestOf 6 = .ok (.istore_n 3, 1) := by decide +kernel
theorem dX8_nearestOf_7 : decode cX8_nearestOf 7 = .ok (.bipush 99, 2) := by decide +kernel
theorem dX8_nearestOf_9 : decode cX8_nearestOf 9 = .ok (.istore 4, 2) := by decide +kernel
theorem dX8_nearestOf_11 : decode cX8_nearestOf 11 = .ok (.iconst 0, 1) := by decide +kernel
theorem dX8_nearestOf_12 : decode cX8_nearestOf 12 = .ok (.istore 5, 2) := by decide +kernel
theorem dX8_nearestOf_14 : decode cX8_nearestOf 14 = .ok (.iload 5, 2) := by decide +kernel
theorem dX8_nearestOf_16 : decode cX8_nearestOf 16 = .ok (.iload_n 2, 1) := by decide +kernel
theorem dX8_nearestOf_17 : decode cX8_nearestOf 17 = .ok (.if_icmp .gt 47, 3) := by decide +kernel
theorem dX8_nearestOf_20 : decode cX8_nearestOf 20 = .ok (.iload 5, 2) := by decide +kernel
theorem dX8_nearestOf_22 : decode cX8_nearestOf 22 = .ok (.iload_n 1, 1) := by decide +kernel
theorem dX8_nearestOf_23 : decode cX8_nearestOf 23 = .ok (.ixor, 1) := by decide +kernel
theorem dX8_nearestOf_24 : decode cX8_nearestOf 24 = .ok (.iload_n 2, 1) := by decide +kernel
theorem dX8_nearestOf_25 : decode cX8_nearestOf 25 = .ok (.iand, 1) := by decide +kernel
theorem dX8_nearestOf_26 : decode cX8_nearestOf 26 = .ok (.invokestatic 157, 3) := by decide +kernel
theorem dX8_nearestOf_29 : decode cX8_nearestOf 29 = .ok (.istore 6, 2) := by decide +kernel
theorem dX8_nearestOf_31 : decode cX8_nearestOf 31 = .ok (.aload_n 0, 1) := by decide +kernel
theorem dX8_nearestOf_32 : decode cX8_nearestOf 32 = .ok (.iload 5, 2) := by decide +kernel
theorem dX8_nearestOf_34 : decode cX8_nearestOf 34 = .ok (.aload_n 0, 1) := by decide +kernel
theorem dX8_nearestOf_35 : decode cX8_nearestOf 35 = .ok (.getfield 111, 3) := by decide +kernel
theorem dX8_nearestOf_38 : decode cX8_nearestOf 38 = .ok (.invokevirtual 142, 3) := by decide +kernel
theorem dX8_nearestOf_41 : decode cX8_nearestOf 41 = .ok (.ifCond .ne 17, 3) := by decide +kernel
theorem dX8_nearestOf_44 : decode cX8_nearestOf 44 = .ok (.iload 6, 2) := by decide +kernel
theorem dX8_nearestOf_46 : decode cX8_nearestOf 46 = .ok (.iload 4, 2) := by decide +kernel
theorem dX8_nearestOf_48 : decode cX8_nearestOf 48 = .ok (.if_icmp .ge 10, 3) := by decide +kernel
theorem dX8_nearestOf_51 : decode cX8_nearestOf 51 = .ok (.iload 5, 2) := by decide +kernel
theorem dX8_nearestOf_53 : decode cX8_nearestOf 53 = .ok (.istore_n 3, 1) := by decide +kernel
theorem dX8_nearestOf_54 : decode cX8_nearestOf 54 = .ok (.iload 6, 2) := by decide +kernel
theorem dX8_nearestOf_56 : decode cX8_nearestOf 56 = .ok (.istore 4, 2) := by decide +kernel
theorem dX8_nearestOf_58 : decode cX8_nearestOf 58 = .ok (.iinc 5 1, 3) := by decide +kernel
theorem dX8_nearestOf_61 : decode cX8_nearestOf 61 = .ok (.goto (-47), 3) := by decide +kernel
theorem dX8_nearestOf_64 : decode cX8_nearestOf 64 = .ok (.iload_n 3, 1) := by decide +kernel
theorem dX8_nearestOf_65 : decode cX8_nearestOf 65 = .ok (.ireturn, 1) := by decide +kernel
theorem dX8_nearest_0 : decode cX8_nearest 0 = .ok (.iload_n 1, 1) := by decide +kernel
theorem dX8_nearest_1 : decode cX8_nearest 1 = .ok (.invokestatic 145, 3) := by decide +kernel
theorem dX8_nearest_4 : decode cX8_nearest 4 = .ok (.ifCond .eq 11, 3) := by decide +kernel
theorem dX8_nearest_7 : decode cX8_nearest 7 = .ok (.aload_n 0, 1) := by decide +kernel
theorem dX8_nearest_8 : decode cX8_nearest 8 = .ok (.iload_n 1, 1) := by decide +kernel
theorem dX8_nearest_9 : decode cX8_nearest 9 = .ok (.invokevirtual 166, 3) := by decide +kernel
theorem dX8_nearest_12 : decode cX8_nearest 12 = .ok (.goto 5, 3) := by decide +kernel
theorem dX8_nearest_15 : decode cX8_nearest 15 = .ok (.bipush (-2), 2) := by decide +kernel
theorem dX8_nearest_17 : decode cX8_nearest 17 = .ok (.ireturn, 1) := by decide +kernel
theorem dX8_stepsOf_0 : decode cX8_stepsOf 0 = .ok (.iload_n 1, 1) := by decide +kernel
theorem dX8_stepsOf_1 : decode cX8_stepsOf 1 = .ok (.aload_n 0, 1) := by decide +kernel
theorem dX8_stepsOf_2 : decode cX8_stepsOf 2 = .ok (.invokevirtual 139, 3) := by decide +kernel
theorem dX8_stepsOf_5 : decode cX8_stepsOf 5 = .ok (.iand, 1) := by decide +kernel
theorem dX8_stepsOf_6 : decode cX8_stepsOf 6 = .ok (.istore_n 3, 1) := by decide +kernel
theorem dX8_stepsOf_7 : decode cX8_stepsOf 7 = .ok (.iconst 0, 1) := by decide +kernel
theorem dX8_stepsOf_8 : decode cX8_stepsOf 8 = .ok (.istore 4, 2) := by decide +kernel
theorem dX8_stepsOf_10 : decode cX8_stepsOf 10 = .ok (.iload 4, 2) := by decide +kernel
theorem dX8_stepsOf_12 : decode cX8_stepsOf 12 = .ok (.iload_n 2, 1) := by decide +kernel
theorem dX8_stepsOf_13 : decode cX8_stepsOf 13 = .ok (.if_icmp .ge 19, 3) := by decide +kernel
theorem dX8_stepsOf_16 : decode cX8_stepsOf 16 = .ok (.aload_n 0, 1) := by decide +kernel
theorem dX8_stepsOf_17 : decode cX8_stepsOf 17 = .ok (.iload_n 3, 1) := by decide +kernel
theorem dX8_stepsOf_18 : decode cX8_stepsOf 18 = .ok (.aload_n 0, 1) := by decide +kernel
theorem dX8_stepsOf_19 : decode cX8_stepsOf 19 = .ok (.getfield 111, 3) := by decide +kernel
theorem dX8_stepsOf_22 : decode cX8_stepsOf 22 = .ok (.invokevirtual 136, 3) := by decide +kernel
theorem dX8_stepsOf_25 : decode cX8_stepsOf 25 = .ok (.istore_n 3, 1) := by decide +kernel
theorem dX8_stepsOf_26 : decode cX8_stepsOf 26 = .ok (.iinc 4 1, 3) := by decide +kernel
theorem dX8_stepsOf_29 : decode cX8_stepsOf 29 = .ok (.goto (-19), 3) := by decide +kernel
theorem dX8_stepsOf_32 : decode cX8_stepsOf 32 = .ok (.iload_n 3, 1) := by decide +kernel
theorem dX8_stepsOf_33 : decode cX8_stepsOf 33 = .ok (.ireturn, 1) := by decide +kernel
theorem dX8_steps_0 : decode cX8_steps 0 = .ok (.iload_n 1, 1) := by decide +kernel
theorem dX8_steps_1 : decode cX8_steps 1 = .ok (.invokestatic 145, 3) := by decide +kernel
theorem dX8_steps_4 : decode cX8_steps 4 = .ok (.ifCond .eq 22, 3) := by decide +kernel
theorem dX8_steps_7 : decode cX8_steps 7 = .ok (.iload_n 2, 1) := by decide +kernel
theorem dX8_steps_8 : decode cX8_steps 8 = .ok (.iconst 0, 1) := by decide +kernel
theorem dX8_steps_9 : decode cX8_steps 9 = .ok (.bipush 99, 2) := by decide +kernel
theorem dX8_steps_11 : decode cX8_steps 11 = .ok (.invokestatic 66, 3) := by decide +kernel
theorem dX8_steps_14 : decode cX8_steps 14 = .ok (.ifCond .eq 12, 3) := by decide +kernel
theorem dX8_steps_17 : decode cX8_steps 17 = .ok (.aload_n 0, 1) := by decide +kernel
theorem dX8_steps_18 : decode cX8_steps 18 = .ok (.iload_n 1, 1) := by decide +kernel
theorem dX8_steps_19 : decode cX8_steps 19 = .ok (.iload_n 2, 1) := by decide +kernel
theorem dX8_steps_20 : decode cX8_steps 20 = .ok (.invokevirtual 169, 3) := by decide +kernel
theorem dX8_steps_23 : decode cX8_steps 23 = .ok (.goto 5, 3) := by decide +kernel
theorem dX8_steps_26 : decode cX8_steps 26 = .ok (.bipush (-2), 2) := by decide +kernel
theorem dX8_steps_28 : decode cX8_steps 28 = .ok (.ireturn, 1) := by decide +kernel
theorem dX8_returnsOf_0 : decode cX8_returnsOf 0 = .ok (.iload_n 1, 1) := by decide +kernel
theorem dX8_returnsOf_1 : decode cX8_returnsOf 1 = .ok (.aload_n 0, 1) := by decide +kernel
theorem dX8_returnsOf_2 : decode cX8_returnsOf 2 = .ok (.invokevirtual 139, 3) := by decide +kernel
theorem dX8_returnsOf_5 : decode cX8_returnsOf 5 = .ok (.iand, 1) := by decide +kernel
theorem dX8_returnsOf_6 : decode cX8_returnsOf 6 = .ok (.istore_n 3, 1) := by decide +kernel
theorem dX8_returnsOf_7 : decode cX8_returnsOf 7 = .ok (.iconst 0, 1) := by decide +kernel
theorem dX8_returnsOf_8 : decode cX8_returnsOf 8 = .ok (.istore 4, 2) := by decide +kernel
theorem dX8_returnsOf_10 : decode cX8_returnsOf 10 = .ok (.iload 4, 2) := by decide +kernel
theorem dX8_returnsOf_12 : decode cX8_returnsOf 12 = .ok (.sipush 1024, 3) := by decide +kernel
theorem dX8_returnsOf_15 : decode cX8_returnsOf 15 = .ok (.if_icmp .ge 17, 3) := by decide +kernel
theorem dX8_returnsOf_18 : decode cX8_returnsOf 18 = .ok (.aload_n 0, 1) := by decide +kernel
theorem dX8_returnsOf_19 : decode cX8_returnsOf 19 = .ok (.getfield 31, 3) := by decide +kernel
theorem dX8_returnsOf_22 : decode cX8_returnsOf 22 = .ok (.iload 4, 2) := by decide +kernel
theorem dX8_returnsOf_24 : decode cX8_returnsOf 24 = .ok (.iconst (-1), 1) := by decide +kernel
theorem dX8_returnsOf_25 : decode cX8_returnsOf 25 = .ok (.iastore, 1) := by decide +kernel
theorem dX8_returnsOf_26 : decode cX8_returnsOf 26 = .ok (.iinc 4 1, 3) := by decide +kernel
theorem dX8_returnsOf_29 : decode cX8_returnsOf 29 = .ok (.goto (-19), 3) := by decide +kernel
theorem dX8_returnsOf_32 : decode cX8_returnsOf 32 = .ok (.iconst 0, 1) := by decide +kernel
theorem dX8_returnsOf_33 : decode cX8_returnsOf 33 = .ok (.istore 4, 2) := by decide +kernel
theorem dX8_returnsOf_35 : decode cX8_returnsOf 35 = .ok (.aload_n 0, 1) := by decide +kernel
theorem dX8_returnsOf_36 : decode cX8_returnsOf 36 = .ok (.getfield 31, 3) := by decide +kernel
theorem dX8_returnsOf_39 : decode cX8_returnsOf 39 = .ok (.iload_n 3, 1) := by decide +kernel
theorem dX8_returnsOf_40 : decode cX8_returnsOf 40 = .ok (.iaload, 1) := by decide +kernel
theorem dX8_returnsOf_41 : decode cX8_returnsOf 41 = .ok (.iconst (-1), 1) := by decide +kernel
theorem dX8_returnsOf_42 : decode cX8_returnsOf 42 = .ok (.if_icmp .ne 27, 3) := by decide +kernel
theorem dX8_returnsOf_45 : decode cX8_returnsOf 45 = .ok (.aload_n 0, 1) := by decide +kernel
theorem dX8_returnsOf_46 : decode cX8_returnsOf 46 = .ok (.getfield 31, 3) := by decide +kernel
theorem dX8_returnsOf_49 : decode cX8_returnsOf 49 = .ok (.iload_n 3, 1) := by decide +kernel
theorem dX8_returnsOf_50 : decode cX8_returnsOf 50 = .ok (.iload 4, 2) := by decide +kernel
theorem dX8_returnsOf_52 : decode cX8_returnsOf 52 = .ok (.iastore, 1) := by decide +kernel
theorem dX8_returnsOf_53 : decode cX8_returnsOf 53 = .ok (.aload_n 0, 1) := by decide +kernel
theorem dX8_returnsOf_54 : decode cX8_returnsOf 54 = .ok (.iload_n 3, 1) := by decide +kernel
theorem dX8_returnsOf_55 : decode cX8_returnsOf 55 = .ok (.aload_n 0, 1) := by decide +kernel
theorem dX8_returnsOf_56 : decode cX8_returnsOf 56 = .ok (.getfield 111, 3) := by decide +kernel
theorem dX8_returnsOf_59 : decode cX8_returnsOf 59 = .ok (.invokevirtual 136, 3) := by decide +kernel
theorem dX8_returnsOf_62 : decode cX8_returnsOf 62 = .ok (.istore_n 3, 1) := by decide +kernel
theorem dX8_returnsOf_63 : decode cX8_returnsOf 63 = .ok (.iinc 4 1, 3) := by decide +kernel
theorem dX8_returnsOf_66 : decode cX8_returnsOf 66 = .ok (.goto (-31), 3) := by decide +kernel
theorem dX8_returnsOf_69 : decode cX8_returnsOf 69 = .ok (.iload_n 2, 1) := by decide +kernel
theorem dX8_returnsOf_70 : decode cX8_returnsOf 70 = .ok (.ifCond .ne 8, 3) := by decide +kernel
theorem dX8_returnsOf_73 : decode cX8_returnsOf 73 = .ok (.iload 4, 2) := by decide +kernel
theorem dX8_returnsOf_75 : decode cX8_returnsOf 75 = .ok (.goto 12, 3) := by decide +kernel
theorem dX8_returnsOf_78 : decode cX8_returnsOf 78 = .ok (.iload 4, 2) := by decide +kernel
theorem dX8_returnsOf_80 : decode cX8_returnsOf 80 = .ok (.aload_n 0, 1) := by decide +kernel
theorem dX8_returnsOf_81 : decode cX8_returnsOf 81 = .ok (.getfield 31, 3) := by decide +kernel
theorem dX8_returnsOf_84 : decode cX8_returnsOf 84 = .ok (.iload_n 3, 1) := by decide +kernel
theorem dX8_returnsOf_85 : decode cX8_returnsOf 85 = .ok (.iaload, 1) := by decide +kernel
theorem dX8_returnsOf_86 : decode cX8_returnsOf 86 = .ok (.isub, 1) := by decide +kernel
theorem dX8_returnsOf_87 : decode cX8_returnsOf 87 = .ok (.ireturn, 1) := by decide +kernel
theorem dX8_returns_0 : decode cX8_returns 0 = .ok (.iload_n 1, 1) := by decide +kernel
theorem dX8_returns_1 : decode cX8_returns 1 = .ok (.invokestatic 145, 3) := by decide +kernel
theorem dX8_returns_4 : decode cX8_returns 4 = .ok (.ifCond .eq 21, 3) := by decide +kernel
theorem dX8_returns_7 : decode cX8_returns 7 = .ok (.iload_n 2, 1) := by decide +kernel
theorem dX8_returns_8 : decode cX8_returns 8 = .ok (.iconst 0, 1) := by decide +kernel
theorem dX8_returns_9 : decode cX8_returns 9 = .ok (.iconst 1, 1) := by decide +kernel
theorem dX8_returns_10 : decode cX8_returns 10 = .ok (.invokestatic 66, 3) := by decide +kernel
theorem dX8_returns_13 : decode cX8_returns 13 = .ok (.ifCond .eq 12, 3) := by decide +kernel
theorem dX8_returns_16 : decode cX8_returns 16 = .ok (.aload_n 0, 1) := by decide +kernel
theorem dX8_returns_17 : decode cX8_returns 17 = .ok (.iload_n 1, 1) := by decide +kernel
theorem dX8_returns_18 : decode cX8_returns 18 = .ok (.iload_n 2, 1) := by decide +kernel
theorem dX8_returns_19 : decode cX8_returns 19 = .ok (.invokevirtual 172, 3) := by decide +kernel
theorem dX8_returns_22 : decode cX8_returns 22 = .ok (.goto 5, 3) := by decide +kernel
theorem dX8_returns_25 : decode cX8_returns 25 = .ok (.bipush (-2), 2) := by decide +kernel
theorem dX8_returns_27 : decode cX8_returns 27 = .ok (.ireturn, 1) := by decide +kernel
theorem dX8_hangsAt_0 : decode cX8_hangsAt 0 = .ok (.aload_n 0, 1) := by decide +kernel
theorem dX8_hangsAt_1 : decode cX8_hangsAt 1 = .ok (.getfield 16, 3) := by decide +kernel
theorem dX8_hangsAt_4 : decode cX8_hangsAt 4 = .ok (.bipush 6, 2) := by decide +kernel
theorem dX8_hangsAt_6 : decode cX8_hangsAt 6 = .ok (.iload_n 1, 1) := by decide +kernel
theorem dX8_hangsAt_7 : decode cX8_hangsAt 7 = .ok (.imul, 1) := by decide +kernel
theorem dX8_hangsAt_8 : decode cX8_hangsAt 8 = .ok (.iconst 5, 1) := by decide +kernel
theorem dX8_hangsAt_9 : decode cX8_hangsAt 9 = .ok (.iadd, 1) := by decide +kernel
theorem dX8_hangsAt_10 : decode cX8_hangsAt 10 = .ok (.iaload, 1) := by decide +kernel
theorem dX8_hangsAt_11 : decode cX8_hangsAt 11 = .ok (.istore_n 2, 1) := by decide +kernel
theorem dX8_hangsAt_12 : decode cX8_hangsAt 12 = .ok (.iload_n 2, 1) := by decide +kernel
theorem dX8_hangsAt_13 : decode cX8_hangsAt 13 = .ok (.iconst (-1), 1) := by decide +kernel
theorem dX8_hangsAt_14 : decode cX8_hangsAt 14 = .ok (.if_icmp .eq 26, 3) := by decide +kernel
theorem dX8_hangsAt_17 : decode cX8_hangsAt 17 = .ok (.iload_n 2, 1) := by decide +kernel
theorem dX8_hangsAt_18 : decode cX8_hangsAt 18 = .ok (.aload_n 0, 1) := by decide +kernel
theorem dX8_hangsAt_19 : decode cX8_hangsAt 19 = .ok (.getfield 86, 3) := by decide +kernel
theorem dX8_hangsAt_22 : decode cX8_hangsAt 22 = .ok (.if_icmp .ge 18, 3) := by decide +kernel
theorem dX8_hangsAt_25 : decode cX8_hangsAt 25 = .ok (.aload_n 0, 1) := by decide +kernel
theorem dX8_hangsAt_26 : decode cX8_hangsAt 26 = .ok (.iload_n 2, 1) := by decide +kernel
theorem dX8_hangsAt_27 : decode cX8_hangsAt 27 = .ok (.iload_n 1, 1) := by decide +kernel
theorem dX8_hangsAt_28 : decode cX8_hangsAt 28 = .ok (.invokevirtual 130, 3) := by decide +kernel
theorem dX8_hangsAt_31 : decode cX8_hangsAt 31 = .ok (.ifCond .eq 9, 3) := by decide +kernel
theorem dX8_hangsAt_34 : decode cX8_hangsAt 34 = .ok (.iconst 1, 1) := by decide +kernel
theorem dX8_hangsAt_35 : decode cX8_hangsAt 35 = .ok (.iload_n 2, 1) := by decide +kernel
theorem dX8_hangsAt_36 : decode cX8_hangsAt 36 = .ok (.ishl, 1) := by decide +kernel
theorem dX8_hangsAt_37 : decode cX8_hangsAt 37 = .ok (.goto 4, 3) := by decide +kernel
theorem dX8_hangsAt_40 : decode cX8_hangsAt 40 = .ok (.iconst 0, 1) := by decide +kernel
theorem dX8_hangsAt_41 : decode cX8_hangsAt 41 = .ok (.ireturn, 1) := by decide +kernel
theorem dX8_hangsOf_0 : decode cX8_hangsOf 0 = .ok (.aload_n 0, 1) := by decide +kernel
theorem dX8_hangsOf_1 : decode cX8_hangsOf 1 = .ok (.iload_n 1, 1) := by decide +kernel
theorem dX8_hangsOf_2 : decode cX8_hangsOf 2 = .ok (.invokevirtual 175, 3) := by decide +kernel
theorem dX8_hangsOf_5 : decode cX8_hangsOf 5 = .ok (.istore_n 2, 1) := by decide +kernel
theorem dX8_hangsOf_6 : decode cX8_hangsOf 6 = .ok (.iconst 0, 1) := by decide +kernel
theorem dX8_hangsOf_7 : decode cX8_hangsOf 7 = .ok (.istore_n 3, 1) := by decide +kernel
theorem dX8_hangsOf_8 : decode cX8_hangsOf 8 = .ok (.iload_n 3, 1) := by decide +kernel
theorem dX8_hangsOf_9 : decode cX8_hangsOf 9 = .ok (.bipush 10, 2) := by decide +kernel
theorem dX8_hangsOf_11 : decode cX8_hangsOf 11 = .ok (.if_icmp .ge 49, 3) := by decide +kernel
theorem dX8_hangsOf_14 : decode cX8_hangsOf 14 = .ok (.iconst 0, 1) := by decide +kernel
theorem dX8_hangsOf_15 : decode cX8_hangsOf 15 = .ok (.istore 4, 2) := by decide +kernel
theorem dX8_hangsOf_17 : decode cX8_hangsOf 17 = .ok (.iload 4, 2) := by decide +kernel
theorem dX8_hangsOf_19 : decode cX8_hangsOf 19 = .ok (.aload_n 0, 1) := by decide +kernel
theorem dX8_hangsOf_20 : decode cX8_hangsOf 20 = .ok (.getfield 86, 3) := by decide +kernel
theorem dX8_hangsOf_23 : decode cX8_hangsOf 23 = .ok (.if_icmp .ge 31, 3) := by decide +kernel
theorem dX8_hangsOf_26 : decode cX8_hangsOf 26 = .ok (.iload_n 2, 1) := by decide +kernel
theorem dX8_hangsOf_27 : decode cX8_hangsOf 27 = .ok (.iload_n 2, 1) := by decide +kernel
theorem dX8_hangsOf_28 : decode cX8_hangsOf 28 = .ok (.iload 4, 2) := by decide +kernel
theorem dX8_hangsOf_30 : decode cX8_hangsOf 30 = .ok (.invokestatic 126, 3) := by decide +kernel
theorem dX8_hangsOf_33 : decode cX8_hangsOf 33 = .ok (.ifCond .eq 12, 3) := by decide +kernel
theorem dX8_hangsOf_36 : decode cX8_hangsOf 36 = .ok (.aload_n 0, 1) := by decide +kernel
theorem dX8_hangsOf_37 : decode cX8_hangsOf 37 = .ok (.iload 4, 2) := by decide +kernel
theorem dX8_hangsOf_39 : decode cX8_hangsOf 39 = .ok (.invokevirtual 175, 3) := by decide +kernel
theorem dX8_hangsOf_42 : decode cX8_hangsOf 42 = .ok (.goto 4, 3) := by decide +kernel
theorem dX8_hangsOf_45 : decode cX8_hangsOf 45 = .ok (.iconst 0, 1) := by decide +kernel
theorem dX8_hangsOf_46 : decode cX8_hangsOf 46 = .ok (.ior, 1) := by decide +kernel
theorem dX8_hangsOf_47 : decode cX8_hangsOf 47 = .ok (.istore_n 2, 1) := by decide +kernel
theorem dX8_hangsOf_48 : decode cX8_hangsOf 48 = .ok (.iinc 4 1, 3) := by decide +kernel
theorem dX8_hangsOf_51 : decode cX8_hangsOf 51 = .ok (.goto (-34), 3) := by decide +kernel
theorem dX8_hangsOf_54 : decode cX8_hangsOf 54 = .ok (.iinc 3 1, 3) := by decide +kernel
theorem dX8_hangsOf_57 : decode cX8_hangsOf 57 = .ok (.goto (-49), 3) := by decide +kernel
theorem dX8_hangsOf_60 : decode cX8_hangsOf 60 = .ok (.iload_n 2, 1) := by decide +kernel
theorem dX8_hangsOf_61 : decode cX8_hangsOf 61 = .ok (.ireturn, 1) := by decide +kernel
theorem dX8_hangs_0 : decode cX8_hangs 0 = .ok (.aload_n 0, 1) := by decide +kernel
theorem dX8_hangs_1 : decode cX8_hangs 1 = .ok (.iload_n 1, 1) := by decide +kernel
theorem dX8_hangs_2 : decode cX8_hangs 2 = .ok (.invokevirtual 105, 3) := by decide +kernel
theorem dX8_hangs_5 : decode cX8_hangs 5 = .ok (.ifCond .eq 11, 3) := by decide +kernel
theorem dX8_hangs_8 : decode cX8_hangs 8 = .ok (.aload_n 0, 1) := by decide +kernel
theorem dX8_hangs_9 : decode cX8_hangs 9 = .ok (.iload_n 1, 1) := by decide +kernel
theorem dX8_hangs_10 : decode cX8_hangs 10 = .ok (.invokevirtual 178, 3) := by decide +kernel
theorem dX8_hangs_13 : decode cX8_hangs 13 = .ok (.goto 5, 3) := by decide +kernel
theorem dX8_hangs_16 : decode cX8_hangs 16 = .ok (.bipush (-2), 2) := by decide +kernel
theorem dX8_hangs_18 : decode cX8_hangs 18 = .ok (.ireturn, 1) := by decide +kernel
theorem dX8_ringsNow_0 : decode cX8_ringsNow 0 = .ok (.aload_n 0, 1) := by decide +kernel
theorem dX8_ringsNow_1 : decode cX8_ringsNow 1 = .ok (.invokevirtual 102, 3) := by decide +kernel
theorem dX8_ringsNow_4 : decode cX8_ringsNow 4 = .ok (.iconst 0, 1) := by decide +kernel
theorem dX8_ringsNow_5 : decode cX8_ringsNow 5 = .ok (.istore_n 1, 1) := by decide +kernel
theorem dX8_ringsNow_6 : decode cX8_ringsNow 6 = .ok (.iconst 0, 1) := by decide +kernel
theorem dX8_ringsNow_7 : decode cX8_ringsNow 7 = .ok (.istore_n 2, 1) := by decide +kernel
theorem dX8_ringsNow_8 : decode cX8_ringsNow 8 = .ok (.iload_n 2, 1) := by decide +kernel
theorem dX8_ringsNow_9 : decode cX8_ringsNow 9 = .ok (.aload_n 0, 1) := by decide +kernel
theorem dX8_ringsNow_10 : decode cX8_ringsNow 10 = .ok (.getfield 86, 3) := by decide +kernel
theorem dX8_ringsNow_13 : decode cX8_ringsNow 13 = .ok (.if_icmp .ge 31, 3) := by decide +kernel
theorem dX8_ringsNow_16 : decode cX8_ringsNow 16 = .ok (.iload_n 1, 1) := by decide +kernel
theorem dX8_ringsNow_17 : decode cX8_ringsNow 17 = .ok (.aload_n 0, 1) := by decide +kernel
theorem dX8_ringsNow_18 : decode cX8_ringsNow 18 = .ok (.iload_n 2, 1) := by decide +kernel
theorem dX8_ringsNow_19 : decode cX8_ringsNow 19 = .ok (.invokevirtual 178, 3) := by decide +kernel
theorem dX8_ringsNow_22 : decode cX8_ringsNow 22 = .ok (.iload_n 2, 1) := by decide +kernel
theorem dX8_ringsNow_23 : decode cX8_ringsNow 23 = .ok (.invokestatic 126, 3) := by decide +kernel
theorem dX8_ringsNow_26 : decode cX8_ringsNow 26 = .ok (.ifCond .eq 9, 3) := by decide +kernel
theorem dX8_ringsNow_29 : decode cX8_ringsNow 29 = .ok (.iconst 1, 1) := by decide +kernel
theorem dX8_ringsNow_30 : decode cX8_ringsNow 30 = .ok (.iload_n 2, 1) := by decide +kernel
theorem dX8_ringsNow_31 : decode cX8_ringsNow 31 = .ok (.ishl, 1) := by decide +kernel
theorem dX8_ringsNow_32 : decode cX8_ringsNow 32 = .ok (.goto 4, 3) := by decide +kernel
theorem dX8_ringsNow_35 : decode cX8_ringsNow 35 = .ok (.iconst 0, 1) := by decide +kernel
theorem dX8_ringsNow_36 : decode cX8_ringsNow 36 = .ok (.ior, 1) := by decide +kernel
theorem dX8_ringsNow_37 : decode cX8_ringsNow 37 = .ok (.istore_n 1, 1) := by decide +kernel
theorem dX8_ringsNow_38 : decode cX8_ringsNow 38 = .ok (.iinc 2 1, 3) := by decide +kernel
theorem dX8_ringsNow_41 : decode cX8_ringsNow 41 = .ok (.goto (-33), 3) := by decide +kernel
theorem dX8_ringsNow_44 : decode cX8_ringsNow 44 = .ok (.iload_n 1, 1) := by decide +kernel
theorem dX8_ringsNow_45 : decode cX8_ringsNow 45 = .ok (.ireturn, 1) := by decide +kernel
theorem dX8_rings_0 : decode cX8_rings 0 = .ok (.aload_n 0, 1) := by decide +kernel
theorem dX8_rings_1 : decode cX8_rings 1 = .ok (.invokevirtual 181, 3) := by decide +kernel
theorem dX8_rings_4 : decode cX8_rings 4 = .ok (.ireturn, 1) := by decide +kernel
theorem dX8_hadOf_0 : decode cX8_hadOf 0 = .ok (.iconst 0, 1) := by decide +kernel
theorem dX8_hadOf_1 : decode cX8_hadOf 1 = .ok (.istore 4, 2) := by decide +kernel
theorem dX8_hadOf_3 : decode cX8_hadOf 3 = .ok (.iload_n 1, 1) := by decide +kernel
theorem dX8_hadOf_4 : decode cX8_hadOf 4 = .ok (.aload_n 0, 1) := by decide +kernel
theorem dX8_hadOf_5 : decode cX8_hadOf 5 = .ok (.invokevirtual 139, 3) := by decide +kernel
theorem dX8_hadOf_8 : decode cX8_hadOf 8 = .ok (.iand, 1) := by decide +kernel
theorem dX8_hadOf_9 : decode cX8_hadOf 9 = .ok (.istore 5, 2) := by decide +kernel
theorem dX8_hadOf_11 : decode cX8_hadOf 11 = .ok (.iconst 0, 1) := by decide +kernel
theorem dX8_hadOf_12 : decode cX8_hadOf 12 = .ok (.istore 6, 2) := by decide +kernel
theorem dX8_hadOf_14 : decode cX8_hadOf 14 = .ok (.iload 6, 2) := by decide +kernel
theorem dX8_hadOf_16 : decode cX8_hadOf 16 = .ok (.aload_n 0, 1) := by decide +kernel
theorem dX8_hadOf_17 : decode cX8_hadOf 17 = .ok (.getfield 86, 3) := by decide +kernel
theorem dX8_hadOf_20 : decode cX8_hadOf 20 = .ok (.if_icmp .ge 67, 3) := by decide +kernel
theorem dX8_hadOf_23 : decode cX8_hadOf 23 = .ok (.iload 4, 2) := by decide +kernel
theorem dX8_hadOf_25 : decode cX8_hadOf 25 = .ok (.iload 5, 2) := by decide +kernel
theorem dX8_hadOf_27 : decode cX8_hadOf 27 = .ok (.iload 6, 2) := by decide +kernel
theorem dX8_hadOf_29 : decode cX8_hadOf 29 = .ok (.invokestatic 126, 3) := by decide +kernel
theorem dX8_hadOf_32 : decode cX8_hadOf 32 = .ok (.ifCond .eq 45, 3) := by decide +kernel
theorem dX8_hadOf_35 : decode cX8_hadOf 35 = .ok (.aload_n 0, 1) := by decide +kernel
theorem dX8_hadOf_36 : decode cX8_hadOf 36 = .ok (.getfield 16, 3) := by decide +kernel
theorem dX8_hadOf_39 : decode cX8_hadOf 39 = .ok (.bipush 6, 2) := by decide +kernel
theorem dX8_hadOf_41 : decode cX8_hadOf 41 = .ok (.iload 6, 2) := by decide +kernel
theorem dX8_hadOf_43 : decode cX8_hadOf 43 = .ok (.imul, 1) := by decide +kernel
theorem dX8_hadOf_44 : decode cX8_hadOf 44 = .ok (.iaload, 1) := by decide +kernel
theorem dX8_hadOf_45 : decode cX8_hadOf 45 = .ok (.iload_n 2, 1) := by decide +kernel
theorem dX8_hadOf_46 : decode cX8_hadOf 46 = .ok (.if_icmp .ne 31, 3) := by decide +kernel
theorem dX8_hadOf_49 : decode cX8_hadOf 49 = .ok (.aload_n 0, 1) := by decide +kernel
theorem dX8_hadOf_50 : decode cX8_hadOf 50 = .ok (.getfield 16, 3) := by decide +kernel
theorem dX8_hadOf_53 : decode cX8_hadOf 53 = .ok (.bipush 6, 2) := by decide +kernel
theorem dX8_hadOf_55 : decode cX8_hadOf 55 = .ok (.iload 6, 2) := by decide +kernel
theorem dX8_hadOf_57 : decode cX8_hadOf 57 = .ok (.imul, 1) := by decide +kernel
theorem dX8_hadOf_58 : decode cX8_hadOf 58 = .ok (.iconst 2, 1) := by decide +kernel
theorem dX8_hadOf_59 : decode cX8_hadOf 59 = .ok (.iadd, 1) := by decide +kernel
theorem dX8_hadOf_60 : decode cX8_hadOf 60 = .ok (.iaload, 1) := by decide +kernel
theorem dX8_hadOf_61 : decode cX8_hadOf 61 = .ok (.aload_n 0, 1) := by decide +kernel
theorem dX8_hadOf_62 : decode cX8_hadOf 62 = .ok (.getfield 59, 3) := by decide +kernel
theorem dX8_hadOf_65 : decode cX8_hadOf 65 = .ok (.isub, 1) := by decide +kernel
theorem dX8_hadOf_66 : decode cX8_hadOf 66 = .ok (.iload_n 3, 1) := by decide +kernel
theorem dX8_hadOf_67 : decode cX8_hadOf 67 = .ok (.if_icmp .gt 10, 3) := by decide +kernel
theorem dX8_hadOf_70 : decode cX8_hadOf 70 = .ok (.iconst 1, 1) := by decide +kernel
theorem dX8_hadOf_71 : decode cX8_hadOf 71 = .ok (.iload 6, 2) := by decide +kernel
theorem dX8_hadOf_73 : decode cX8_hadOf 73 = .ok (.ishl, 1) := by decide +kernel
theorem dX8_hadOf_74 : decode cX8_hadOf 74 = .ok (.goto 4, 3) := by decide +kernel
theorem dX8_hadOf_77 : decode cX8_hadOf 77 = .ok (.iconst 0, 1) := by decide +kernel
theorem dX8_hadOf_78 : decode cX8_hadOf 78 = .ok (.ior, 1) := by decide +kernel
theorem dX8_hadOf_79 : decode cX8_hadOf 79 = .ok (.istore 4, 2) := by decide +kernel
theorem dX8_hadOf_81 : decode cX8_hadOf 81 = .ok (.iinc 6 1, 3) := by decide +kernel
theorem dX8_hadOf_84 : decode cX8_hadOf 84 = .ok (.goto (-70), 3) := by decide +kernel
theorem dX8_hadOf_87 : decode cX8_hadOf 87 = .ok (.iload 4, 2) := by decide +kernel
theorem dX8_hadOf_89 : decode cX8_hadOf 89 = .ok (.ireturn, 1) := by decide +kernel
theorem dX8_had_0 : decode cX8_had 0 = .ok (.iload_n 1, 1) := by decide +kernel
theorem dX8_had_1 : decode cX8_had 1 = .ok (.invokestatic 145, 3) := by decide +kernel
theorem dX8_had_4 : decode cX8_had 4 = .ok (.ifCond .eq 27, 3) := by decide +kernel
theorem dX8_had_7 : decode cX8_had 7 = .ok (.iload_n 2, 1) := by decide +kernel
theorem dX8_had_8 : decode cX8_had 8 = .ok (.invokestatic 184, 3) := by decide +kernel
theorem dX8_had_11 : decode cX8_had 11 = .ok (.ifCond .eq 20, 3) := by decide +kernel
theorem dX8_had_14 : decode cX8_had 14 = .ok (.iload_n 3, 1) := by decide +kernel
theorem dX8_had_15 : decode cX8_had 15 = .ok (.invokestatic 187, 3) := by decide +kernel
theorem dX8_had_18 : decode cX8_had 18 = .ok (.ifCond .eq 13, 3) := by decide +kernel
theorem dX8_had_21 : decode cX8_had 21 = .ok (.aload_n 0, 1) := by decide +kernel
theorem dX8_had_22 : decode cX8_had 22 = .ok (.iload_n 1, 1) := by decide +kernel
theorem dX8_had_23 : decode cX8_had 23 = .ok (.iload_n 2, 1) := by decide +kernel
theorem dX8_had_24 : decode cX8_had 24 = .ok (.iload_n 3, 1) := by decide +kernel
theorem dX8_had_25 : decode cX8_had 25 = .ok (.invokevirtual 190, 3) := by decide +kernel
theorem dX8_had_28 : decode cX8_had 28 = .ok (.goto 5, 3) := by decide +kernel
theorem dX8_had_31 : decode cX8_had 31 = .ok (.bipush (-2), 2) := by decide +kernel
theorem dX8_had_33 : decode cX8_had 33 = .ok (.ireturn, 1) := by decide +kernel
theorem dX8_askedOf_0 : decode cX8_askedOf 0 = .ok (.iconst 0, 1) := by decide +kernel
theorem dX8_askedOf_1 : decode cX8_askedOf 1 = .ok (.istore 4, 2) := by decide +kernel
theorem dX8_askedOf_3 : decode cX8_askedOf 3 = .ok (.iload_n 1, 1) := by decide +kernel
theorem dX8_askedOf_4 : decode cX8_askedOf 4 = .ok (.aload_n 0, 1) := by decide +kernel
theorem dX8_askedOf_5 : decode cX8_askedOf 5 = .ok (.invokevirtual 139, 3) := by decide +kernel
theorem dX8_askedOf_8 : decode cX8_askedOf 8 = .ok (.iand, 1) := by decide +kernel
theorem dX8_askedOf_9 : decode cX8_askedOf 9 = .ok (.istore 5, 2) := by decide +kernel
theorem dX8_askedOf_11 : decode cX8_askedOf 11 = .ok (.iconst 0, 1) := by decide +kernel
theorem dX8_askedOf_12 : decode cX8_askedOf 12 = .ok (.istore 6, 2) := by decide +kernel
theorem dX8_askedOf_14 : decode cX8_askedOf 14 = .ok (.iload 6, 2) := by decide +kernel
theorem dX8_askedOf_16 : decode cX8_askedOf 16 = .ok (.aload_n 0, 1) := by decide +kernel
theorem dX8_askedOf_17 : decode cX8_askedOf 17 = .ok (.getfield 86, 3) := by decide +kernel
theorem dX8_askedOf_20 : decode cX8_askedOf 20 = .ok (.if_icmp .ge 62, 3) := by decide +kernel
theorem dX8_askedOf_23 : decode cX8_askedOf 23 = .ok (.iload 4, 2) := by decide +kernel
theorem dX8_askedOf_25 : decode cX8_askedOf 25 = .ok (.iload 5, 2) := by decide +kernel
theorem dX8_askedOf_27 : decode cX8_askedOf 27 = .ok (.iload 6, 2) := by decide +kernel
theorem dX8_askedOf_29 : decode cX8_askedOf 29 = .ok (.invokestatic 126, 3) := by decide +kernel
theorem dX8_askedOf_32 : decode cX8_askedOf 32 = .ok (.ifCond .eq 40, 3) := by decide +kernel
theorem dX8_askedOf_35 : decode cX8_askedOf 35 = .ok (.aload_n 0, 1) := by decide +kernel
theorem dX8_askedOf_36 : decode cX8_askedOf 36 = .ok (.getfield 16, 3) := by decide +kernel
theorem dX8_askedOf_39 : decode cX8_askedOf 39 = .ok (.bipush 6, 2) := by decide +kernel
theorem dX8_askedOf_41 : decode cX8_askedOf 41 = .ok (.iload 6, 2) := by decide +kernel
theorem dX8_askedOf_43 : decode cX8_askedOf 43 = .ok (.imul, 1) := by decide +kernel
theorem dX8_askedOf_44 : decode cX8_askedOf 44 = .ok (.iaload, 1) := by decide +kernel
theorem dX8_askedOf_45 : decode cX8_askedOf 45 = .ok (.iload_n 2, 1) := by decide +kernel
theorem dX8_askedOf_46 : decode cX8_askedOf 46 = .ok (.if_icmp .ne 26, 3) := by decide +kernel
theorem dX8_askedOf_49 : decode cX8_askedOf 49 = .ok (.aload_n 0, 1) := by decide +kernel
theorem dX8_askedOf_50 : decode cX8_askedOf 50 = .ok (.getfield 16, 3) := by decide +kernel
theorem dX8_askedOf_53 : decode cX8_askedOf 53 = .ok (.bipush 6, 2) := by decide +kernel
theorem dX8_askedOf_55 : decode cX8_askedOf 55 = .ok (.iload 6, 2) := by decide +kernel
theorem dX8_askedOf_57 : decode cX8_askedOf 57 = .ok (.imul, 1) := by decide +kernel
theorem dX8_askedOf_58 : decode cX8_askedOf 58 = .ok (.iconst 2, 1) := by decide +kernel
theorem dX8_askedOf_59 : decode cX8_askedOf 59 = .ok (.iadd, 1) := by decide +kernel
theorem dX8_askedOf_60 : decode cX8_askedOf 60 = .ok (.iaload, 1) := by decide +kernel
theorem dX8_askedOf_61 : decode cX8_askedOf 61 = .ok (.iload_n 3, 1) := by decide +kernel
theorem dX8_askedOf_62 : decode cX8_askedOf 62 = .ok (.if_icmp .gt 10, 3) := by decide +kernel
theorem dX8_askedOf_65 : decode cX8_askedOf 65 = .ok (.iconst 1, 1) := by decide +kernel
theorem dX8_askedOf_66 : decode cX8_askedOf 66 = .ok (.iload 6, 2) := by decide +kernel
theorem dX8_askedOf_68 : decode cX8_askedOf 68 = .ok (.ishl, 1) := by decide +kernel
theorem dX8_askedOf_69 : decode cX8_askedOf 69 = .ok (.goto 4, 3) := by decide +kernel
theorem dX8_askedOf_72 : decode cX8_askedOf 72 = .ok (.iconst 0, 1) := by decide +kernel
theorem dX8_askedOf_73 : decode cX8_askedOf 73 = .ok (.ior, 1) := by decide +kernel
theorem dX8_askedOf_74 : decode cX8_askedOf 74 = .ok (.istore 4, 2) := by decide +kernel
theorem dX8_askedOf_76 : decode cX8_askedOf 76 = .ok (.iinc 6 1, 3) := by decide +kernel
theorem dX8_askedOf_79 : decode cX8_askedOf 79 = .ok (.goto (-65), 3) := by decide +kernel
theorem dX8_askedOf_82 : decode cX8_askedOf 82 = .ok (.iload 4, 2) := by decide +kernel
theorem dX8_askedOf_84 : decode cX8_askedOf 84 = .ok (.ireturn, 1) := by decide +kernel
theorem dX8_asked_0 : decode cX8_asked 0 = .ok (.iload_n 1, 1) := by decide +kernel
theorem dX8_asked_1 : decode cX8_asked 1 = .ok (.invokestatic 145, 3) := by decide +kernel
theorem dX8_asked_4 : decode cX8_asked 4 = .ok (.ifCond .eq 27, 3) := by decide +kernel
theorem dX8_asked_7 : decode cX8_asked 7 = .ok (.iload_n 2, 1) := by decide +kernel
theorem dX8_asked_8 : decode cX8_asked 8 = .ok (.invokestatic 184, 3) := by decide +kernel
theorem dX8_asked_11 : decode cX8_asked 11 = .ok (.ifCond .eq 20, 3) := by decide +kernel
theorem dX8_asked_14 : decode cX8_asked 14 = .ok (.iload_n 3, 1) := by decide +kernel
theorem dX8_asked_15 : decode cX8_asked 15 = .ok (.invokestatic 187, 3) := by decide +kernel
theorem dX8_asked_18 : decode cX8_asked 18 = .ok (.ifCond .eq 13, 3) := by decide +kernel
theorem dX8_asked_21 : decode cX8_asked 21 = .ok (.aload_n 0, 1) := by decide +kernel
theorem dX8_asked_22 : decode cX8_asked 22 = .ok (.iload_n 1, 1) := by decide +kernel
theorem dX8_asked_23 : decode cX8_asked 23 = .ok (.iload_n 2, 1) := by decide +kernel
theorem dX8_asked_24 : decode cX8_asked 24 = .ok (.iload_n 3, 1) := by decide +kernel
theorem dX8_asked_25 : decode cX8_asked 25 = .ok (.invokevirtual 193, 3) := by decide +kernel
theorem dX8_asked_28 : decode cX8_asked 28 = .ok (.goto 5, 3) := by decide +kernel
theorem dX8_asked_31 : decode cX8_asked 31 = .ok (.bipush (-2), 2) := by decide +kernel
theorem dX8_asked_33 : decode cX8_asked 33 = .ok (.ireturn, 1) := by decide +kernel
theorem dX8_openOf_0 : decode cX8_openOf 0 = .ok (.iconst 0, 1) := by decide +kernel
theorem dX8_openOf_1 : decode cX8_openOf 1 = .ok (.istore_n 3, 1) := by decide +kernel
theorem dX8_openOf_2 : decode cX8_openOf 2 = .ok (.iload_n 1, 1) := by decide +kernel
theorem dX8_openOf_3 : decode cX8_openOf 3 = .ok (.aload_n 0, 1) := by decide +kernel
theorem dX8_openOf_4 : decode cX8_openOf 4 = .ok (.invokevirtual 139, 3) := by decide +kernel
theorem dX8_openOf_7 : decode cX8_openOf 7 = .ok (.iand, 1) := by decide +kernel
theorem dX8_openOf_8 : decode cX8_openOf 8 = .ok (.istore 4, 2) := by decide +kernel
theorem dX8_openOf_10 : decode cX8_openOf 10 = .ok (.iconst 0, 1) := by decide +kernel
theorem dX8_openOf_11 : decode cX8_openOf 11 = .ok (.istore 5, 2) := by decide +kernel
theorem dX8_openOf_13 : decode cX8_openOf 13 = .ok (.iload 5, 2) := by decide +kernel
theorem dX8_openOf_15 : decode cX8_openOf 15 = .ok (.aload_n 0, 1) := by decide +kernel
theorem dX8_openOf_16 : decode cX8_openOf 16 = .ok (.getfield 86, 3) := by decide +kernel
theorem dX8_openOf_19 : decode cX8_openOf 19 = .ok (.if_icmp .ge 67, 3) := by decide +kernel
theorem dX8_openOf_22 : decode cX8_openOf 22 = .ok (.iload_n 3, 1) := by decide +kernel
theorem dX8_openOf_23 : decode cX8_openOf 23 = .ok (.iload 4, 2) := by decide +kernel
theorem dX8_openOf_25 : decode cX8_openOf 25 = .ok (.iload 5, 2) := by decide +kernel
theorem dX8_openOf_27 : decode cX8_openOf 27 = .ok (.invokestatic 126, 3) := by decide +kernel
theorem dX8_openOf_30 : decode cX8_openOf 30 = .ok (.ifCond .eq 47, 3) := by decide +kernel
theorem dX8_openOf_33 : decode cX8_openOf 33 = .ok (.aload_n 0, 1) := by decide +kernel
theorem dX8_openOf_34 : decode cX8_openOf 34 = .ok (.getfield 16, 3) := by decide +kernel
theorem dX8_openOf_37 : decode cX8_openOf 37 = .ok (.bipush 6, 2) := by decide +kernel
theorem dX8_openOf_39 : decode cX8_openOf 39 = .ok (.iload 5, 2) := by decide +kernel
theorem dX8_openOf_41 : decode cX8_openOf 41 = .ok (.imul, 1) := by decide +kernel
theorem dX8_openOf_42 : decode cX8_openOf 42 = .ok (.iconst 2, 1) := by decide +kernel
theorem dX8_openOf_43 : decode cX8_openOf 43 = .ok (.iadd, 1) := by decide +kernel
theorem dX8_openOf_44 : decode cX8_openOf 44 = .ok (.iaload, 1) := by decide +kernel
theorem dX8_openOf_45 : decode cX8_openOf 45 = .ok (.aload_n 0, 1) := by decide +kernel
theorem dX8_openOf_46 : decode cX8_openOf 46 = .ok (.getfield 59, 3) := by decide +kernel
theorem dX8_openOf_49 : decode cX8_openOf 49 = .ok (.isub, 1) := by decide +kernel
theorem dX8_openOf_50 : decode cX8_openOf 50 = .ok (.iload_n 2, 1) := by decide +kernel
theorem dX8_openOf_51 : decode cX8_openOf 51 = .ok (.if_icmp .gt 26, 3) := by decide +kernel
theorem dX8_openOf_54 : decode cX8_openOf 54 = .ok (.aload_n 0, 1) := by decide +kernel
theorem dX8_openOf_55 : decode cX8_openOf 55 = .ok (.getfield 16, 3) := by decide +kernel
theorem dX8_openOf_58 : decode cX8_openOf 58 = .ok (.bipush 6, 2) := by decide +kernel
theorem dX8_openOf_60 : decode cX8_openOf 60 = .ok (.iload 5, 2) := by decide +kernel
theorem dX8_openOf_62 : decode cX8_openOf 62 = .ok (.imul, 1) := by decide +kernel
theorem dX8_openOf_63 : decode cX8_openOf 63 = .ok (.iconst 2, 1) := by decide +kernel
theorem dX8_openOf_64 : decode cX8_openOf 64 = .ok (.iadd, 1) := by decide +kernel
theorem dX8_openOf_65 : decode cX8_openOf 65 = .ok (.iaload, 1) := by decide +kernel
theorem dX8_openOf_66 : decode cX8_openOf 66 = .ok (.iload_n 2, 1) := by decide +kernel
theorem dX8_openOf_67 : decode cX8_openOf 67 = .ok (.if_icmp .le 10, 3) := by decide +kernel
theorem dX8_openOf_70 : decode cX8_openOf 70 = .ok (.iconst 1, 1) := by decide +kernel
theorem dX8_openOf_71 : decode cX8_openOf 71 = .ok (.iload 5, 2) := by decide +kernel
theorem dX8_openOf_73 : decode cX8_openOf 73 = .ok (.ishl, 1) := by decide +kernel
theorem dX8_openOf_74 : decode cX8_openOf 74 = .ok (.goto 4, 3) := by decide +kernel
theorem dX8_openOf_77 : decode cX8_openOf 77 = .ok (.iconst 0, 1) := by decide +kernel
theorem dX8_openOf_78 : decode cX8_openOf 78 = .ok (.ior, 1) := by decide +kernel
theorem dX8_openOf_79 : decode cX8_openOf 79 = .ok (.istore_n 3, 1) := by decide +kernel
theorem dX8_openOf_80 : decode cX8_openOf 80 = .ok (.iinc 5 1, 3) := by decide +kernel
theorem dX8_openOf_83 : decode cX8_openOf 83 = .ok (.goto (-70), 3) := by decide +kernel
theorem dX8_openOf_86 : decode cX8_openOf 86 = .ok (.iload_n 3, 1) := by decide +kernel
theorem dX8_openOf_87 : decode cX8_openOf 87 = .ok (.ireturn, 1) := by decide +kernel
theorem dX8_open_0 : decode cX8_open 0 = .ok (.iload_n 1, 1) := by decide +kernel
theorem dX8_open_1 : decode cX8_open 1 = .ok (.invokestatic 145, 3) := by decide +kernel
theorem dX8_open_4 : decode cX8_open 4 = .ok (.ifCond .eq 19, 3) := by decide +kernel
theorem dX8_open_7 : decode cX8_open 7 = .ok (.iload_n 2, 1) := by decide +kernel
theorem dX8_open_8 : decode cX8_open 8 = .ok (.invokestatic 187, 3) := by decide +kernel
theorem dX8_open_11 : decode cX8_open 11 = .ok (.ifCond .eq 12, 3) := by decide +kernel
theorem dX8_open_14 : decode cX8_open 14 = .ok (.aload_n 0, 1) := by decide +kernel
theorem dX8_open_15 : decode cX8_open 15 = .ok (.iload_n 1, 1) := by decide +kernel
theorem dX8_open_16 : decode cX8_open 16 = .ok (.iload_n 2, 1) := by decide +kernel
theorem dX8_open_17 : decode cX8_open 17 = .ok (.invokevirtual 196, 3) := by decide +kernel
theorem dX8_open_20 : decode cX8_open 20 = .ok (.goto 5, 3) := by decide +kernel
theorem dX8_open_23 : decode cX8_open 23 = .ok (.bipush (-2), 2) := by decide +kernel
theorem dX8_open_25 : decode cX8_open 25 = .ok (.ireturn, 1) := by decide +kernel
theorem dX8_worthOf_0 : decode cX8_worthOf 0 = .ok (.iconst 0, 1) := by decide +kernel
theorem dX8_worthOf_1 : decode cX8_worthOf 1 = .ok (.istore_n 3, 1) := by decide +kernel
theorem dX8_worthOf_2 : decode cX8_worthOf 2 = .ok (.iconst 0, 1) := by decide +kernel
theorem dX8_worthOf_3 : decode cX8_worthOf 3 = .ok (.istore 4, 2) := by decide +kernel
theorem dX8_worthOf_5 : decode cX8_worthOf 5 = .ok (.iload 4, 2) := by decide +kernel
theorem dX8_worthOf_7 : decode cX8_worthOf 7 = .ok (.aload_n 0, 1) := by decide +kernel
theorem dX8_worthOf_8 : decode cX8_worthOf 8 = .ok (.getfield 86, 3) := by decide +kernel
theorem dX8_worthOf_11 : decode cX8_worthOf 11 = .ok (.if_icmp .ge 46, 3) := by decide +kernel
theorem dX8_worthOf_14 : decode cX8_worthOf 14 = .ok (.iload_n 3, 1) := by decide +kernel
theorem dX8_worthOf_15 : decode cX8_worthOf 15 = .ok (.iload_n 1, 1) := by decide +kernel
theorem dX8_worthOf_16 : decode cX8_worthOf 16 = .ok (.iload 4, 2) := by decide +kernel
theorem dX8_worthOf_18 : decode cX8_worthOf 18 = .ok (.invokestatic 126, 3) := by decide +kernel
theorem dX8_worthOf_21 : decode cX8_worthOf 21 = .ok (.ifCond .eq 27, 3) := by decide +kernel
theorem dX8_worthOf_24 : decode cX8_worthOf 24 = .ok (.aload_n 0, 1) := by decide +kernel
theorem dX8_worthOf_25 : decode cX8_worthOf 25 = .ok (.getfield 16, 3) := by decide +kernel
theorem dX8_worthOf_28 : decode cX8_worthOf 28 = .ok (.bipush 6, 2) := by decide +kernel
theorem dX8_worthOf_30 : decode cX8_worthOf 30 = .ok (.iload 4, 2) := by decide +kernel
theorem dX8_worthOf_32 : decode cX8_worthOf 32 = .ok (.imul, 1) := by decide +kernel
theorem dX8_worthOf_33 : decode cX8_worthOf 33 = .ok (.iaload, 1) := by decide +kernel
theorem dX8_worthOf_34 : decode cX8_worthOf 34 = .ok (.iload_n 2, 1) := by decide +kernel
theorem dX8_worthOf_35 : decode cX8_worthOf 35 = .ok (.if_icmp .ne 13, 3) := by decide +kernel
theorem dX8_worthOf_38 : decode cX8_worthOf 38 = .ok (.aload_n 0, 1) := by decide +kernel
theorem dX8_worthOf_39 : decode cX8_worthOf 39 = .ok (.getfield 25, 3) := by decide +kernel
theorem dX8_worthOf_42 : decode cX8_worthOf 42 = .ok (.iload 4, 2) := by decide +kernel
theorem dX8_worthOf_44 : decode cX8_worthOf 44 = .ok (.iaload, 1) := by decide +kernel
theorem dX8_worthOf_45 : decode cX8_worthOf 45 = .ok (.goto 4, 3) := by decide +kernel
theorem dX8_worthOf_48 : decode cX8_worthOf 48 = .ok (.iconst 0, 1) := by decide +kernel
theorem dX8_worthOf_49 : decode cX8_worthOf 49 = .ok (.iadd, 1) := by decide +kernel
theorem dX8_worthOf_50 : decode cX8_worthOf 50 = .ok (.istore_n 3, 1) := by decide +kernel
theorem dX8_worthOf_51 : decode cX8_worthOf 51 = .ok (.iinc 4 1, 3) := by decide +kernel
theorem dX8_worthOf_54 : decode cX8_worthOf 54 = .ok (.goto (-49), 3) := by decide +kernel
theorem dX8_worthOf_57 : decode cX8_worthOf 57 = .ok (.iload_n 3, 1) := by decide +kernel
theorem dX8_worthOf_58 : decode cX8_worthOf 58 = .ok (.ireturn, 1) := by decide +kernel
theorem dX8_bestBy_0 : decode cX8_bestBy 0 = .ok (.aload_n 0, 1) := by decide +kernel
theorem dX8_bestBy_1 : decode cX8_bestBy 1 = .ok (.invokevirtual 139, 3) := by decide +kernel
theorem dX8_bestBy_4 : decode cX8_bestBy 4 = .ok (.istore_n 3, 1) := by decide +kernel
theorem dX8_bestBy_5 : decode cX8_bestBy 5 = .ok (.iconst (-1), 1) := by decide +kernel
theorem dX8_bestBy_6 : decode cX8_bestBy 6 = .ok (.istore 4, 2) := by decide +kernel
theorem dX8_bestBy_8 : decode cX8_bestBy 8 = .ok (.iconst 0, 1) := by decide +kernel
theorem dX8_bestBy_9 : decode cX8_bestBy 9 = .ok (.istore 5, 2) := by decide +kernel
theorem dX8_bestBy_11 : decode cX8_bestBy 11 = .ok (.iload 5, 2) := by decide +kernel
theorem dX8_bestBy_13 : decode cX8_bestBy 13 = .ok (.iload_n 3, 1) := by decide +kernel
theorem dX8_bestBy_14 : decode cX8_bestBy 14 = .ok (.if_icmp .gt 63, 3) := by decide +kernel
theorem dX8_bestBy_17 : decode cX8_bestBy 17 = .ok (.aload_n 0, 1) := by decide +kernel
theorem dX8_bestBy_18 : decode cX8_bestBy 18 = .ok (.iload 5, 2) := by decide +kernel
theorem dX8_bestBy_20 : decode cX8_bestBy 20 = .ok (.iload_n 2, 1) := by decide +kernel
theorem dX8_bestBy_21 : decode cX8_bestBy 21 = .ok (.invokevirtual 142, 3) := by decide +kernel
theorem dX8_bestBy_24 : decode cX8_bestBy 24 = .ok (.ifCond .ne 7, 3) := by decide +kernel
theorem dX8_bestBy_27 : decode cX8_bestBy 27 = .ok (.iconst 1, 1) := by decide +kernel
theorem dX8_bestBy_28 : decode cX8_bestBy 28 = .ok (.goto 4, 3) := by decide +kernel
theorem dX8_bestBy_31 : decode cX8_bestBy 31 = .ok (.iconst 0, 1) := by decide +kernel
theorem dX8_bestBy_32 : decode cX8_bestBy 32 = .ok (.istore 6, 2) := by decide +kernel
theorem dX8_bestBy_34 : decode cX8_bestBy 34 = .ok (.iload 6, 2) := by decide +kernel
theorem dX8_bestBy_36 : decode cX8_bestBy 36 = .ok (.ifCond .eq 31, 3) := by decide +kernel
theorem dX8_bestBy_39 : decode cX8_bestBy 39 = .ok (.iload 4, 2) := by decide +kernel
theorem dX8_bestBy_41 : decode cX8_bestBy 41 = .ok (.iconst (-1), 1) := by decide +kernel
theorem dX8_bestBy_42 : decode cX8_bestBy 42 = .ok (.if_icmp .eq 20, 3) := by decide +kernel
theorem dX8_bestBy_45 : decode cX8_bestBy 45 = .ok (.aload_n 0, 1) := by decide +kernel
theorem dX8_bestBy_46 : decode cX8_bestBy 46 = .ok (.iload 5, 2) := by decide +kernel
theorem dX8_bestBy_48 : decode cX8_bestBy 48 = .ok (.iload_n 1, 1) := by decide +kernel
theorem dX8_bestBy_49 : decode cX8_bestBy 49 = .ok (.invokevirtual 199, 3) := by decide +kernel
theorem dX8_bestBy_52 : decode cX8_bestBy 52 = .ok (.aload_n 0, 1) := by decide +kernel
theorem dX8_bestBy_53 : decode cX8_bestBy 53 = .ok (.iload 4, 2) := by decide +kernel
theorem dX8_bestBy_55 : decode cX8_bestBy 55 = .ok (.iload_n 1, 1) := by decide +kernel
theorem dX8_bestBy_56 : decode cX8_bestBy 56 = .ok (.invokevirtual 199, 3) := by decide +kernel
theorem dX8_bestBy_59 : decode cX8_bestBy 59 = .ok (.if_icmp .le 8, 3) := by decide +kernel
theorem dX8_bestBy_62 : decode cX8_bestBy 62 = .ok (.iload 5, 2) := by decide +kernel
theorem dX8_bestBy_64 : decode cX8_bestBy 64 = .ok (.goto 5, 3) := by decide +kernel
theorem dX8_bestBy_67 : decode cX8_bestBy 67 = .ok (.iload 4, 2) := by decide +kernel
theorem dX8_bestBy_69 : decode cX8_bestBy 69 = .ok (.istore 4, 2) := by decide +kernel
theorem dX8_bestBy_71 : decode cX8_bestBy 71 = .ok (.iinc 5 1, 3) := by decide +kernel
theorem dX8_bestBy_74 : decode cX8_bestBy 74 = .ok (.goto (-63), 3) := by decide +kernel
theorem dX8_bestBy_77 : decode cX8_bestBy 77 = .ok (.iload 4, 2) := by decide +kernel
theorem dX8_bestBy_79 : decode cX8_bestBy 79 = .ok (.ireturn, 1) := by decide +kernel
theorem dX8_bestOf_0 : decode cX8_bestOf 0 = .ok (.aload_n 0, 1) := by decide +kernel
theorem dX8_bestOf_1 : decode cX8_bestOf 1 = .ok (.iload_n 1, 1) := by decide +kernel
theorem dX8_bestOf_2 : decode cX8_bestOf 2 = .ok (.aload_n 0, 1) := by decide +kernel
theorem dX8_bestOf_3 : decode cX8_bestOf 3 = .ok (.getfield 111, 3) := by decide +kernel
theorem dX8_bestOf_6 : decode cX8_bestOf 6 = .ok (.invokevirtual 202, 3) := by decide +kernel
theorem dX8_bestOf_9 : decode cX8_bestOf 9 = .ok (.istore_n 3, 1) := by decide +kernel
theorem dX8_bestOf_10 : decode cX8_bestOf 10 = .ok (.iload_n 2, 1) := by decide +kernel
theorem dX8_bestOf_11 : decode cX8_bestOf 11 = .ok (.iconst 1, 1) := by decide +kernel
theorem dX8_bestOf_12 : decode cX8_bestOf 12 = .ok (.if_icmp .ne 7, 3) := by decide +kernel
theorem dX8_bestOf_15 : decode cX8_bestOf 15 = .ok (.iload_n 3, 1) := by decide +kernel
theorem dX8_bestOf_16 : decode cX8_bestOf 16 = .ok (.goto 20, 3) := by decide +kernel
theorem dX8_bestOf_19 : decode cX8_bestOf 19 = .ok (.iload_n 3, 1) := by decide +kernel
theorem dX8_bestOf_20 : decode cX8_bestOf 20 = .ok (.iconst (-1), 1) := by decide +kernel
theorem dX8_bestOf_21 : decode cX8_bestOf 21 = .ok (.if_icmp .ne 9, 3) := by decide +kernel
theorem dX8_bestOf_24 : decode cX8_bestOf 24 = .ok (.sipush (-1003), 3) := by decide +kernel
theorem dX8_bestOf_27 : decode cX8_bestOf 27 = .ok (.goto 9, 3) := by decide +kernel
theorem dX8_bestOf_30 : decode cX8_bestOf 30 = .ok (.aload_n 0, 1) := by decide +kernel
theorem dX8_bestOf_31 : decode cX8_bestOf 31 = .ok (.iload_n 3, 1) := by decide +kernel
theorem dX8_bestOf_32 : decode cX8_bestOf 32 = .ok (.iload_n 1, 1) := by decide +kernel
theorem dX8_bestOf_33 : decode cX8_bestOf 33 = .ok (.invokevirtual 199, 3) := by decide +kernel
theorem dX8_bestOf_36 : decode cX8_bestOf 36 = .ok (.ireturn, 1) := by decide +kernel
theorem dX8_best_0 : decode cX8_best 0 = .ok (.iload_n 1, 1) := by decide +kernel
theorem dX8_best_1 : decode cX8_best 1 = .ok (.invokestatic 184, 3) := by decide +kernel
theorem dX8_best_4 : decode cX8_best 4 = .ok (.ifCond .eq 21, 3) := by decide +kernel
theorem dX8_best_7 : decode cX8_best 7 = .ok (.iload_n 2, 1) := by decide +kernel
theorem dX8_best_8 : decode cX8_best 8 = .ok (.iconst 0, 1) := by decide +kernel
theorem dX8_best_9 : decode cX8_best 9 = .ok (.iconst 1, 1) := by decide +kernel
theorem dX8_best_10 : decode cX8_best 10 = .ok (.invokestatic 66, 3) := by decide +kernel
theorem dX8_best_13 : decode cX8_best 13 = .ok (.ifCond .eq 12, 3) := by decide +kernel
theorem dX8_best_16 : decode cX8_best 16 = .ok (.aload_n 0, 1) := by decide +kernel
theorem dX8_best_17 : decode cX8_best 17 = .ok (.iload_n 1, 1) := by decide +kernel
theorem dX8_best_18 : decode cX8_best 18 = .ok (.iload_n 2, 1) := by decide +kernel
theorem dX8_best_19 : decode cX8_best 19 = .ok (.invokevirtual 205, 3) := by decide +kernel
theorem dX8_best_22 : decode cX8_best 22 = .ok (.goto 6, 3) := by decide +kernel
theorem dX8_best_25 : decode cX8_best 25 = .ok (.sipush (-1002), 3) := by decide +kernel
theorem dX8_best_28 : decode cX8_best 28 = .ok (.ireturn, 1) := by decide +kernel
theorem dX8_restOf_0 : decode cX8_restOf 0 = .ok (.iload_n 1, 1) := by decide +kernel
theorem dX8_restOf_1 : decode cX8_restOf 1 = .ok (.aload_n 0, 1) := by decide +kernel
theorem dX8_restOf_2 : decode cX8_restOf 2 = .ok (.invokevirtual 139, 3) := by decide +kernel
theorem dX8_restOf_5 : decode cX8_restOf 5 = .ok (.iand, 1) := by decide +kernel
theorem dX8_restOf_6 : decode cX8_restOf 6 = .ok (.istore_n 3, 1) := by decide +kernel
theorem dX8_restOf_7 : decode cX8_restOf 7 = .ok (.aload_n 0, 1) := by decide +kernel
theorem dX8_restOf_8 : decode cX8_restOf 8 = .ok (.iload_n 3, 1) := by decide +kernel
theorem dX8_restOf_9 : decode cX8_restOf 9 = .ok (.aload_n 0, 1) := by decide +kernel
theorem dX8_restOf_10 : decode cX8_restOf 10 = .ok (.getfield 111, 3) := by decide +kernel
theorem dX8_restOf_13 : decode cX8_restOf 13 = .ok (.invokevirtual 142, 3) := by decide +kernel
theorem dX8_restOf_16 : decode cX8_restOf 16 = .ok (.ifCond .eq 6, 3) := by decide +kernel
theorem dX8_restOf_19 : decode cX8_restOf 19 = .ok (.bipush (-3), 2) := by decide +kernel
theorem dX8_restOf_21 : decode cX8_restOf 21 = .ok (.ireturn, 1) := by decide +kernel
theorem dX8_restOf_22 : decode cX8_restOf 22 = .ok (.aload_n 0, 1) := by decide +kernel
theorem dX8_restOf_23 : decode cX8_restOf 23 = .ok (.getfield 111, 3) := by decide +kernel
theorem dX8_restOf_26 : decode cX8_restOf 26 = .ok (.istore 4, 2) := by decide +kernel
theorem dX8_restOf_28 : decode cX8_restOf 28 = .ok (.iconst 0, 1) := by decide +kernel
theorem dX8_restOf_29 : decode cX8_restOf 29 = .ok (.istore 5, 2) := by decide +kernel
theorem dX8_restOf_31 : decode cX8_restOf 31 = .ok (.iload 5, 2) := by decide +kernel
theorem dX8_restOf_33 : decode cX8_restOf 33 = .ok (.aload_n 0, 1) := by decide +kernel
theorem dX8_restOf_34 : decode cX8_restOf 34 = .ok (.getfield 86, 3) := by decide +kernel
theorem dX8_restOf_37 : decode cX8_restOf 37 = .ok (.if_icmp .ge 36, 3) := by decide +kernel
theorem dX8_restOf_40 : decode cX8_restOf 40 = .ok (.iload 4, 2) := by decide +kernel
theorem dX8_restOf_42 : decode cX8_restOf 42 = .ok (.aload_n 0, 1) := by decide +kernel
theorem dX8_restOf_43 : decode cX8_restOf 43 = .ok (.getfield 16, 3) := by decide +kernel
theorem dX8_restOf_46 : decode cX8_restOf 46 = .ok (.bipush 6, 2) := by decide +kernel
theorem dX8_restOf_48 : decode cX8_restOf 48 = .ok (.iload 5, 2) := by decide +kernel
theorem dX8_restOf_50 : decode cX8_restOf 50 = .ok (.imul, 1) := by decide +kernel
theorem dX8_restOf_51 : decode cX8_restOf 51 = .ok (.iaload, 1) := by decide +kernel
theorem dX8_restOf_52 : decode cX8_restOf 52 = .ok (.iload_n 2, 1) := by decide +kernel
theorem dX8_restOf_53 : decode cX8_restOf 53 = .ok (.if_icmp .ne 10, 3) := by decide +kernel
theorem dX8_restOf_56 : decode cX8_restOf 56 = .ok (.iconst 1, 1) := by decide +kernel
theorem dX8_restOf_57 : decode cX8_restOf 57 = .ok (.iload 5, 2) := by decide +kernel
theorem dX8_restOf_59 : decode cX8_restOf 59 = .ok (.ishl, 1) := by decide +kernel
theorem dX8_restOf_60 : decode cX8_restOf 60 = .ok (.goto 4, 3) := by decide +kernel
theorem dX8_restOf_63 : decode cX8_restOf 63 = .ok (.iconst 0, 1) := by decide +kernel
theorem dX8_restOf_64 : decode cX8_restOf 64 = .ok (.ior, 1) := by decide +kernel
theorem dX8_restOf_65 : decode cX8_restOf 65 = .ok (.istore 4, 2) := by decide +kernel
theorem dX8_restOf_67 : decode cX8_restOf 67 = .ok (.iinc 5 1, 3) := by decide +kernel
theorem dX8_restOf_70 : decode cX8_restOf 70 = .ok (.goto (-39), 3) := by decide +kernel
theorem dX8_restOf_73 : decode cX8_restOf 73 = .ok (.aload_n 0, 1) := by decide +kernel
theorem dX8_restOf_74 : decode cX8_restOf 74 = .ok (.aload_n 0, 1) := by decide +kernel
theorem dX8_restOf_75 : decode cX8_restOf 75 = .ok (.iload_n 2, 1) := by decide +kernel
theorem dX8_restOf_76 : decode cX8_restOf 76 = .ok (.iload 4, 2) := by decide +kernel
theorem dX8_restOf_78 : decode cX8_restOf 78 = .ok (.invokevirtual 202, 3) := by decide +kernel
theorem dX8_restOf_81 : decode cX8_restOf 81 = .ok (.iload_n 2, 1) := by decide +kernel
theorem dX8_restOf_82 : decode cX8_restOf 82 = .ok (.invokevirtual 199, 3) := by decide +kernel
theorem dX8_restOf_85 : decode cX8_restOf 85 = .ok (.aload_n 0, 1) := by decide +kernel
theorem dX8_restOf_86 : decode cX8_restOf 86 = .ok (.iload_n 3, 1) := by decide +kernel
theorem dX8_restOf_87 : decode cX8_restOf 87 = .ok (.iload_n 2, 1) := by decide +kernel
theorem dX8_restOf_88 : decode cX8_restOf 88 = .ok (.invokevirtual 199, 3) := by decide +kernel
theorem dX8_restOf_91 : decode cX8_restOf 91 = .ok (.if_icmp .le 7, 3) := by decide +kernel
theorem dX8_restOf_94 : decode cX8_restOf 94 = .ok (.iconst 0, 1) := by decide +kernel
theorem dX8_restOf_95 : decode cX8_restOf 95 = .ok (.goto 4, 3) := by decide +kernel
theorem dX8_restOf_98 : decode cX8_restOf 98 = .ok (.iconst 1, 1) := by decide +kernel
theorem dX8_restOf_99 : decode cX8_restOf 99 = .ok (.ireturn, 1) := by decide +kernel
theorem dX8_rest_0 : decode cX8_rest 0 = .ok (.iload_n 1, 1) := by decide +kernel
theorem dX8_rest_1 : decode cX8_rest 1 = .ok (.invokestatic 145, 3) := by decide +kernel
theorem dX8_rest_4 : decode cX8_rest 4 = .ok (.ifCond .eq 19, 3) := by decide +kernel
theorem dX8_rest_7 : decode cX8_rest 7 = .ok (.iload_n 2, 1) := by decide +kernel
theorem dX8_rest_8 : decode cX8_rest 8 = .ok (.invokestatic 184, 3) := by decide +kernel
theorem dX8_rest_11 : decode cX8_rest 11 = .ok (.ifCond .eq 12, 3) := by decide +kernel
theorem dX8_rest_14 : decode cX8_rest 14 = .ok (.aload_n 0, 1) := by decide +kernel
theorem dX8_rest_15 : decode cX8_rest 15 = .ok (.iload_n 1, 1) := by decide +kernel
theorem dX8_rest_16 : decode cX8_rest 16 = .ok (.iload_n 2, 1) := by decide +kernel
theorem dX8_rest_17 : decode cX8_rest 17 = .ok (.invokevirtual 208, 3) := by decide +kernel
theorem dX8_rest_20 : decode cX8_rest 20 = .ok (.goto 5, 3) := by decide +kernel
theorem dX8_rest_23 : decode cX8_rest 23 = .ok (.bipush (-2), 2) := by decide +kernel
theorem dX8_rest_25 : decode cX8_rest 25 = .ok (.ireturn, 1) := by decide +kernel
theorem dX8_canBe_0 : decode cX8_canBe 0 = .ok (.iconst 3, 1) := by decide +kernel
theorem dX8_canBe_1 : decode cX8_canBe 1 = .ok (.iload_n 2, 1) := by decide +kernel
theorem dX8_canBe_2 : decode cX8_canBe 2 = .ok (.imul, 1) := by decide +kernel
theorem dX8_canBe_3 : decode cX8_canBe 3 = .ok (.istore_n 3, 1) := by decide +kernel
theorem dX8_canBe_4 : decode cX8_canBe 4 = .ok (.bipush 33, 2) := by decide +kernel
theorem dX8_canBe_6 : decode cX8_canBe 6 = .ok (.iconst 3, 1) := by decide +kernel
theorem dX8_canBe_7 : decode cX8_canBe 7 = .ok (.iload_n 1, 1) := by decide +kernel
theorem dX8_canBe_8 : decode cX8_canBe 8 = .ok (.imul, 1) := by decide +kernel
theorem dX8_canBe_9 : decode cX8_canBe 9 = .ok (.iadd, 1) := by decide +kernel
theorem dX8_canBe_10 : decode cX8_canBe 10 = .ok (.istore 4, 2) := by decide +kernel
theorem dX8_canBe_12 : decode cX8_canBe 12 = .ok (.aload_n 0, 1) := by decide +kernel
theorem dX8_canBe_13 : decode cX8_canBe 13 = .ok (.getfield 22, 3) := by decide +kernel
theorem dX8_canBe_16 : decode cX8_canBe 16 = .ok (.iload 4, 2) := by decide +kernel
theorem dX8_canBe_18 : decode cX8_canBe 18 = .ok (.iaload, 1) := by decide +kernel
theorem dX8_canBe_19 : decode cX8_canBe 19 = .ok (.aload_n 0, 1) := by decide +kernel
theorem dX8_canBe_20 : decode cX8_canBe 20 = .ok (.getfield 22, 3) := by decide +kernel
theorem dX8_canBe_23 : decode cX8_canBe 23 = .ok (.iload_n 3, 1) := by decide +kernel
theorem dX8_canBe_24 : decode cX8_canBe 24 = .ok (.iaload, 1) := by decide +kernel
theorem dX8_canBe_25 : decode cX8_canBe 25 = .ok (.isub, 1) := by decide +kernel
theorem dX8_canBe_26 : decode cX8_canBe 26 = .ok (.aload_n 0, 1) := by decide +kernel
theorem dX8_canBe_27 : decode cX8_canBe 27 = .ok (.getfield 59, 3) := by decide +kernel
theorem dX8_canBe_30 : decode cX8_canBe 30 = .ok (.isub, 1) := by decide +kernel
theorem dX8_canBe_31 : decode cX8_canBe 31 = .ok (.istore 5, 2) := by decide +kernel
theorem dX8_canBe_33 : decode cX8_canBe 33 = .ok (.aload_n 0, 1) := by decide +kernel
theorem dX8_canBe_34 : decode cX8_canBe 34 = .ok (.getfield 22, 3) := by decide +kernel
theorem dX8_canBe_37 : decode cX8_canBe 37 = .ok (.iload 4, 2) := by decide +kernel
theorem dX8_canBe_39 : decode cX8_canBe 39 = .ok (.iconst 1, 1) := by decide +kernel
theorem dX8_canBe_40 : decode cX8_canBe 40 = .ok (.iadd, 1) := by decide +kernel
theorem dX8_canBe_41 : decode cX8_canBe 41 = .ok (.iaload, 1) := by decide +kernel
theorem dX8_canBe_42 : decode cX8_canBe 42 = .ok (.aload_n 0, 1) := by decide +kernel
theorem dX8_canBe_43 : decode cX8_canBe 43 = .ok (.getfield 22, 3) := by decide +kernel
theorem dX8_canBe_46 : decode cX8_canBe 46 = .ok (.iload_n 3, 1) := by decide +kernel
theorem dX8_canBe_47 : decode cX8_canBe 47 = .ok (.iconst 2, 1) := by decide +kernel
theorem dX8_canBe_48 : decode cX8_canBe 48 = .ok (.iadd, 1) := by decide +kernel
theorem dX8_canBe_49 : decode cX8_canBe 49 = .ok (.iaload, 1) := by decide +kernel
theorem dX8_canBe_50 : decode cX8_canBe 50 = .ok (.if_icmp .ne 40, 3) := by decide +kernel
theorem dX8_canBe_53 : decode cX8_canBe 53 = .ok (.aload_n 0, 1) := by decide +kernel
theorem dX8_canBe_54 : decode cX8_canBe 54 = .ok (.getfield 22, 3) := by decide +kernel
theorem dX8_canBe_57 : decode cX8_canBe 57 = .ok (.iload 4, 2) := by decide +kernel
theorem dX8_canBe_59 : decode cX8_canBe 59 = .ok (.iconst 2, 1) := by decide +kernel
theorem dX8_canBe_60 : decode cX8_canBe 60 = .ok (.iadd, 1) := by decide +kernel
theorem dX8_canBe_61 : decode cX8_canBe 61 = .ok (.iaload, 1) := by decide +kernel
theorem dX8_canBe_62 : decode cX8_canBe 62 = .ok (.aload_n 0, 1) := by decide +kernel
theorem dX8_canBe_63 : decode cX8_canBe 63 = .ok (.getfield 22, 3) := by decide +kernel
theorem dX8_canBe_66 : decode cX8_canBe 66 = .ok (.iload_n 3, 1) := by decide +kernel
theorem dX8_canBe_67 : decode cX8_canBe 67 = .ok (.iconst 1, 1) := by decide +kernel
theorem dX8_canBe_68 : decode cX8_canBe 68 = .ok (.iadd, 1) := by decide +kernel
theorem dX8_canBe_69 : decode cX8_canBe 69 = .ok (.iaload, 1) := by decide +kernel
theorem dX8_canBe_70 : decode cX8_canBe 70 = .ok (.if_icmp .ne 20, 3) := by decide +kernel
theorem dX8_canBe_73 : decode cX8_canBe 73 = .ok (.iload 5, 2) := by decide +kernel
theorem dX8_canBe_75 : decode cX8_canBe 75 = .ok (.iconst 0, 1) := by decide +kernel
theorem dX8_canBe_76 : decode cX8_canBe 76 = .ok (.aload_n 0, 1) := by decide +kernel
theorem dX8_canBe_77 : decode cX8_canBe 77 = .ok (.getfield 108, 3) := by decide +kernel
theorem dX8_canBe_80 : decode cX8_canBe 80 = .ok (.invokestatic 66, 3) := by decide +kernel
theorem dX8_canBe_83 : decode cX8_canBe 83 = .ok (.ifCond .eq 7, 3) := by decide +kernel
theorem dX8_canBe_86 : decode cX8_canBe 86 = .ok (.iconst 1, 1) := by decide +kernel
theorem dX8_canBe_87 : decode cX8_canBe 87 = .ok (.goto 4, 3) := by decide +kernel
theorem dX8_canBe_90 : decode cX8_canBe 90 = .ok (.iconst 0, 1) := by decide +kernel
theorem dX8_canBe_91 : decode cX8_canBe 91 = .ok (.ireturn, 1) := by decide +kernel
theorem dX8_owedOf_0 : decode cX8_owedOf 0 = .ok (.aload_n 0, 1) := by decide +kernel
theorem dX8_owedOf_1 : decode cX8_owedOf 1 = .ok (.invokevirtual 102, 3) := by decide +kernel
theorem dX8_owedOf_4 : decode cX8_owedOf 4 = .ok (.iconst 0, 1) := by decide +kernel
theorem dX8_owedOf_5 : decode cX8_owedOf 5 = .ok (.istore_n 2, 1) := by decide +kernel
theorem dX8_owedOf_6 : decode cX8_owedOf 6 = .ok (.iload_n 2, 1) := by decide +kernel
theorem dX8_owedOf_7 : decode cX8_owedOf 7 = .ok (.sipush 1024, 3) := by decide +kernel
theorem dX8_owedOf_10 : decode cX8_owedOf 10 = .ok (.if_icmp .ge 24, 3) := by decide +kernel
theorem dX8_owedOf_13 : decode cX8_owedOf 13 = .ok (.aload_n 0, 1) := by decide +kernel
theorem dX8_owedOf_14 : decode cX8_owedOf 14 = .ok (.getfield 34, 3) := by decide +kernel
theorem dX8_owedOf_17 : decode cX8_owedOf 17 = .ok (.iload_n 2, 1) := by decide +kernel
theorem dX8_owedOf_18 : decode cX8_owedOf 18 = .ok (.iload_n 2, 1) := by decide +kernel
theorem dX8_owedOf_19 : decode cX8_owedOf 19 = .ok (.ifCond .ne 7, 3) := by decide +kernel
theorem dX8_owedOf_22 : decode cX8_owedOf 22 = .ok (.iconst 0, 1) := by decide +kernel
theorem dX8_owedOf_23 : decode cX8_owedOf 23 = .ok (.goto 4, 3) := by decide +kernel
theorem dX8_owedOf_26 : decode cX8_owedOf 26 = .ok (.iconst (-1), 1) := by decide +kernel
theorem dX8_owedOf_27 : decode cX8_owedOf 27 = .ok (.iastore, 1) := by decide +kernel
theorem dX8_owedOf_28 : decode cX8_owedOf 28 = .ok (.iinc 2 1, 3) := by decide +kernel
theorem dX8_owedOf_31 : decode cX8_owedOf 31 = .ok (.goto (-25), 3) := by decide +kernel
theorem dX8_owedOf_34 : decode cX8_owedOf 34 = .ok (.iconst 0, 1) := by decide +kernel
theorem dX8_owedOf_35 : decode cX8_owedOf 35 = .ok (.istore_n 2, 1) := by decide +kernel
theorem dX8_owedOf_36 : decode cX8_owedOf 36 = .ok (.iconst 0, 1) := by decide +kernel
theorem dX8_owedOf_37 : decode cX8_owedOf 37 = .ok (.istore_n 3, 1) := by decide +kernel
theorem dX8_owedOf_38 : decode cX8_owedOf 38 = .ok (.iload_n 3, 1) := by decide +kernel
theorem dX8_owedOf_39 : decode cX8_owedOf 39 = .ok (.aload_n 0, 1) := by decide +kernel
theorem dX8_owedOf_40 : decode cX8_owedOf 40 = .ok (.getfield 19, 3) := by decide +kernel
theorem dX8_owedOf_43 : decode cX8_owedOf 43 = .ok (.iconst 0, 1) := by decide +kernel
theorem dX8_owedOf_44 : decode cX8_owedOf 44 = .ok (.iaload, 1) := by decide +kernel
theorem dX8_owedOf_45 : decode cX8_owedOf 45 = .ok (.if_icmp .ge 146, 3) := by decide +kernel
theorem dX8_owedOf_48 : decode cX8_owedOf 48 = .ok (.iload_n 1, 1) := by decide +kernel
theorem dX8_owedOf_49 : decode cX8_owedOf 49 = .ok (.iconst (-1), 1) := by decide +kernel
theorem dX8_owedOf_50 : decode cX8_owedOf 50 = .ok (.if_icmp .eq 20, 3) := by decide +kernel
theorem dX8_owedOf_53 : decode cX8_owedOf 53 = .ok (.aload_n 0, 1) := by decide +kernel
theorem dX8_owedOf_54 : decode cX8_owedOf 54 = .ok (.getfield 22, 3) := by decide +kernel
theorem dX8_owedOf_57 : decode cX8_owedOf 57 = .ok (.iconst 3, 1) := by decide +kernel
theorem dX8_owedOf_58 : decode cX8_owedOf 58 = .ok (.iload_n 3, 1) := by decide +kernel
theorem dX8_owedOf_59 : decode cX8_owedOf 59 = .ok (.imul, 1) := by decide +kernel
theorem dX8_owedOf_60 : decode cX8_owedOf 60 = .ok (.iconst 2, 1) := by decide +kernel
theorem dX8_owedOf_61 : decode cX8_owedOf 61 = .ok (.iadd, 1) := by decide +kernel
theorem dX8_owedOf_62 : decode cX8_owedOf 62 = .ok (.iaload, 1) := by decide +kernel
theorem dX8_owedOf_63 : decode cX8_owedOf 63 = .ok (.iload_n 1, 1) := by decide +kernel
theorem dX8_owedOf_64 : decode cX8_owedOf 64 = .ok (.if_icmp .eq 6, 3) := by decide +kernel
theorem dX8_owedOf_67 : decode cX8_owedOf 67 = .ok (.goto 118, 3) := by decide +kernel
theorem dX8_owedOf_70 : decode cX8_owedOf 70 = .ok (.iinc 2 1, 3) := by decide +kernel
theorem dX8_owedOf_73 : decode cX8_owedOf 73 = .ok (.sipush 1023, 3) := by decide +kernel
theorem dX8_owedOf_76 : decode cX8_owedOf 76 = .ok (.istore 4, 2) := by decide +kernel
theorem dX8_owedOf_78 : decode cX8_owedOf 78 = .ok (.iload 4, 2) := by decide +kernel
theorem dX8_owedOf_80 : decode cX8_owedOf 80 = .ok (.ifCond .lt 105, 3) := by decide +kernel
theorem dX8_owedOf_83 : decode cX8_owedOf 83 = .ok (.iconst 0, 1) := by decide +kernel
theorem dX8_owedOf_84 : decode cX8_owedOf 84 = .ok (.istore 5, 2) := by decide +kernel
theorem dX8_owedOf_86 : decode cX8_owedOf 86 = .ok (.iload 5, 2) := by decide +kernel
theorem dX8_owedOf_88 : decode cX8_owedOf 88 = .ok (.aload_n 0, 1) := by decide +kernel
theorem dX8_owedOf_89 : decode cX8_owedOf 89 = .ok (.getfield 19, 3) := by decide +kernel
theorem dX8_owedOf_92 : decode cX8_owedOf 92 = .ok (.iconst 1, 1) := by decide +kernel
theorem dX8_owedOf_93 : decode cX8_owedOf 93 = .ok (.iaload, 1) := by decide +kernel
theorem dX8_owedOf_94 : decode cX8_owedOf 94 = .ok (.if_icmp .ge 85, 3) := by decide +kernel
theorem dX8_owedOf_97 : decode cX8_owedOf 97 = .ok (.aload_n 0, 1) := by decide +kernel
theorem dX8_owedOf_98 : decode cX8_owedOf 98 = .ok (.getfield 34, 3) := by decide +kernel
theorem dX8_owedOf_101 : decode cX8_owedOf 101 = .ok (.iload 4, 2) := by decide +kernel
theorem dX8_owedOf_103 : decode cX8_owedOf 103 = .ok (.iaload, 1) := by decide +kernel
theorem dX8_owedOf_104 : decode cX8_owedOf 104 = .ok (.iconst (-1), 1) := by decide +kernel
theorem dX8_owedOf_105 : decode cX8_owedOf 105 = .ok (.if_icmp .eq 74, 3) := by decide +kernel
theorem dX8_owedOf_108 : decode cX8_owedOf 108 = .ok (.iload 4, 2) := by decide +kernel
theorem dX8_owedOf_110 : decode cX8_owedOf 110 = .ok (.iload 5, 2) := by decide +kernel
theorem dX8_owedOf_112 : decode cX8_owedOf 112 = .ok (.invokestatic 126, 3) := by decide +kernel
theorem dX8_owedOf_115 : decode cX8_owedOf 115 = .ok (.ifCond .ne 58, 3) := by decide +kernel
theorem dX8_owedOf_118 : decode cX8_owedOf 118 = .ok (.aload_n 0, 1) := by decide +kernel
theorem dX8_owedOf_119 : decode cX8_owedOf 119 = .ok (.iload 5, 2) := by decide +kernel
theorem dX8_owedOf_121 : decode cX8_owedOf 121 = .ok (.iload_n 3, 1) := by decide +kernel
theorem dX8_owedOf_122 : decode cX8_owedOf 122 = .ok (.invokevirtual 211, 3) := by decide +kernel
theorem dX8_owedOf_125 : decode cX8_owedOf 125 = .ok (.ifCond .eq 48, 3) := by decide +kernel
theorem dX8_owedOf_128 : decode cX8_owedOf 128 = .ok (.aload_n 0, 1) := by decide +kernel
theorem dX8_owedOf_129 : decode cX8_owedOf 129 = .ok (.getfield 34, 3) := by decide +kernel
theorem dX8_owedOf_132 : decode cX8_owedOf 132 = .ok (.iload 4, 2) := by decide +kernel
theorem dX8_owedOf_134 : decode cX8_owedOf 134 = .ok (.iconst 1, 1) := by decide +kernel
theorem dX8_owedOf_135 : decode cX8_owedOf 135 = .ok (.iload 5, 2) := by decide +kernel
theorem dX8_owedOf_137 : decode cX8_owedOf 137 = .ok (.ishl, 1) := by decide +kernel
theorem dX8_owedOf_138 : decode cX8_owedOf 138 = .ok (.ior, 1) := by decide +kernel
theorem dX8_owedOf_139 : decode cX8_owedOf 139 = .ok (.iaload, 1) := by decide +kernel
theorem dX8_owedOf_140 : decode cX8_owedOf 140 = .ok (.aload_n 0, 1) := by decide +kernel
theorem dX8_owedOf_141 : decode cX8_owedOf 141 = .ok (.getfield 34, 3) := by decide +kernel
theorem dX8_owedOf_144 : decode cX8_owedOf 144 = .ok (.iload 4, 2) := by decide +kernel
theorem dX8_owedOf_146 : decode cX8_owedOf 146 = .ok (.iaload, 1) := by decide +kernel
theorem dX8_owedOf_147 : decode cX8_owedOf 147 = .ok (.iconst 1, 1) := by decide +kernel
theorem dX8_owedOf_148 : decode cX8_owedOf 148 = .ok (.iadd, 1) := by decide +kernel
theorem dX8_owedOf_149 : decode cX8_owedOf 149 = .ok (.if_icmp .ge 24, 3) := by decide +kernel
theorem dX8_owedOf_152 : decode cX8_owedOf 152 = .ok (.aload_n 0, 1) := by decide +kernel
theorem dX8_owedOf_153 : decode cX8_owedOf 153 = .ok (.getfield 34, 3) := by decide +kernel
theorem dX8_owedOf_156 : decode cX8_owedOf 156 = .ok (.iload 4, 2) := by decide +kernel
theorem dX8_owedOf_158 : decode cX8_owedOf 158 = .ok (.iconst 1, 1) := by decide +kernel
theorem dX8_owedOf_159 : decode cX8_owedOf 159 = .ok (.iload 5, 2) := by decide +kernel
theorem dX8_owedOf_161 : decode cX8_owedOf 161 = .ok (.ishl, 1) := by decide +kernel
theorem dX8_owedOf_162 : decode cX8_owedOf 162 = .ok (.ior, 1) := by decide +kernel
theorem dX8_owedOf_163 : decode cX8_owedOf 163 = .ok (.aload_n 0, 1) := by decide +kernel
theorem dX8_owedOf_164 : decode cX8_owedOf 164 = .ok (.getfield 34, 3) := by decide +kernel
theorem dX8_owedOf_167 : decode cX8_owedOf 167 = .ok (.iload 4, 2) := by decide +kernel
theorem dX8_owedOf_169 : decode cX8_owedOf 169 = .ok (.iaload, 1) := by decide +kernel
theorem dX8_owedOf_170 : decode cX8_owedOf 170 = .ok (.iconst 1, 1) := by decide +kernel
theorem dX8_owedOf_171 : decode cX8_owedOf 171 = .ok (.iadd, 1) := by decide +kernel
theorem dX8_owedOf_172 : decode cX8_owedOf 172 = .ok (.iastore, 1) := by decide +kernel
theorem dX8_owedOf_173 : decode cX8_owedOf 173 = .ok (.iinc 5 1, 3) := by decide +kernel
theorem dX8_owedOf_176 : decode cX8_owedOf 176 = .ok (.goto (-90), 3) := by decide +kernel
theorem dX8_owedOf_179 : decode cX8_owedOf 179 = .ok (.iinc 4 (-1), 3) := by decide +kernel
theorem dX8_owedOf_182 : decode cX8_owedOf 182 = .ok (.goto (-104), 3) := by decide +kernel
theorem dX8_owedOf_185 : decode cX8_owedOf 185 = .ok (.iinc 3 1, 3) := by decide +kernel
theorem dX8_owedOf_188 : decode cX8_owedOf 188 = .ok (.goto (-150), 3) := by decide +kernel
theorem dX8_owedOf_191 : decode cX8_owedOf 191 = .ok (.iconst 0, 1) := by decide +kernel
theorem dX8_owedOf_192 : decode cX8_owedOf 192 = .ok (.istore_n 3, 1) := by decide +kernel
theorem dX8_owedOf_193 : decode cX8_owedOf 193 = .ok (.iconst 0, 1) := by decide +kernel
theorem dX8_owedOf_194 : decode cX8_owedOf 194 = .ok (.istore 4, 2) := by decide +kernel
theorem dX8_owedOf_196 : decode cX8_owedOf 196 = .ok (.iload 4, 2) := by decide +kernel
theorem dX8_owedOf_198 : decode cX8_owedOf 198 = .ok (.sipush 1024, 3) := by decide +kernel
theorem dX8_owedOf_201 : decode cX8_owedOf 201 = .ok (.if_icmp .ge 32, 3) := by decide +kernel
theorem dX8_owedOf_204 : decode cX8_owedOf 204 = .ok (.aload_n 0, 1) := by decide +kernel
theorem dX8_owedOf_205 : decode cX8_owedOf 205 = .ok (.getfield 34, 3) := by decide +kernel
theorem dX8_owedOf_208 : decode cX8_owedOf 208 = .ok (.iload 4, 2) := by decide +kernel
theorem dX8_owedOf_210 : decode cX8_owedOf 210 = .ok (.iaload, 1) := by decide +kernel
theorem dX8_owedOf_211 : decode cX8_owedOf 211 = .ok (.iload_n 3, 1) := by decide +kernel
theorem dX8_owedOf_212 : decode cX8_owedOf 212 = .ok (.if_icmp .le 13, 3) := by decide +kernel
theorem dX8_owedOf_215 : decode cX8_owedOf 215 = .ok (.aload_n 0, 1) := by decide +kernel
theorem dX8_owedOf_216 : decode cX8_owedOf 216 = .ok (.getfield 34, 3) := by decide +kernel
theorem dX8_owedOf_219 : decode cX8_owedOf 219 = .ok (.iload 4, 2) := by decide +kernel
theorem dX8_owedOf_221 : decode cX8_owedOf 221 = .ok (.iaload, 1) := by decide +kernel
theorem dX8_owedOf_222 : decode cX8_owedOf 222 = .ok (.goto 4, 3) := by decide +kernel
theorem dX8_owedOf_225 : decode cX8_owedOf 225 = .ok (.iload_n 3, 1) := by decide +kernel
theorem dX8_owedOf_226 : decode cX8_owedOf 226 = .ok (.istore_n 3, 1) := by decide +kernel
theorem dX8_owedOf_227 : decode cX8_owedOf 227 = .ok (.iinc 4 1, 3) := by decide +kernel
theorem dX8_owedOf_230 : decode cX8_owedOf 230 = .ok (.goto (-34), 3) := by decide +kernel
theorem dX8_owedOf_233 : decode cX8_owedOf 233 = .ok (.iload_n 2, 1) := by decide +kernel
theorem dX8_owedOf_234 : decode cX8_owedOf 234 = .ok (.iload_n 3, 1) := by decide +kernel
theorem dX8_owedOf_235 : decode cX8_owedOf 235 = .ok (.isub, 1) := by decide +kernel
theorem dX8_owedOf_236 : decode cX8_owedOf 236 = .ok (.ireturn, 1) := by decide +kernel
theorem dX8_owed_0 : decode cX8_owed 0 = .ok (.iload_n 1, 1) := by decide +kernel
theorem dX8_owed_1 : decode cX8_owed 1 = .ok (.iconst (-1), 1) := by decide +kernel
theorem dX8_owed_2 : decode cX8_owed 2 = .ok (.if_icmp .eq 10, 3) := by decide +kernel
theorem dX8_owed_5 : decode cX8_owed 5 = .ok (.iload_n 1, 1) := by decide +kernel
theorem dX8_owed_6 : decode cX8_owed 6 = .ok (.invokestatic 184, 3) := by decide +kernel
theorem dX8_owed_9 : decode cX8_owed 9 = .ok (.ifCond .eq 11, 3) := by decide +kernel
theorem dX8_owed_12 : decode cX8_owed 12 = .ok (.aload_n 0, 1) := by decide +kernel
theorem dX8_owed_13 : decode cX8_owed 13 = .ok (.iload_n 1, 1) := by decide +kernel
theorem dX8_owed_14 : decode cX8_owed 14 = .ok (.invokevirtual 214, 3) := by decide +kernel
theorem dX8_owed_17 : decode cX8_owed 17 = .ok (.goto 5, 3) := by decide +kernel
theorem dX8_owed_20 : decode cX8_owed 20 = .ok (.bipush (-2), 2) := by decide +kernel
theorem dX8_owed_22 : decode cX8_owed 22 = .ok (.ireturn, 1) := by decide +kernel
theorem dX8_lackNow_0 : decode cX8_lackNow 0 = .ok (.aload_n 0, 1) := by decide +kernel
theorem dX8_lackNow_1 : decode cX8_lackNow 1 = .ok (.invokevirtual 102, 3) := by decide +kernel
theorem dX8_lackNow_4 : decode cX8_lackNow 4 = .ok (.iconst 0, 1) := by decide +kernel
theorem dX8_lackNow_5 : decode cX8_lackNow 5 = .ok (.istore_n 1, 1) := by decide +kernel
theorem dX8_lackNow_6 : decode cX8_lackNow 6 = .ok (.iconst 0, 1) := by decide +kernel
theorem dX8_lackNow_7 : decode cX8_lackNow 7 = .ok (.istore_n 2, 1) := by decide +kernel
theorem dX8_lackNow_8 : decode cX8_lackNow 8 = .ok (.iconst 1, 1) := by decide +kernel
theorem dX8_lackNow_9 : decode cX8_lackNow 9 = .ok (.istore_n 3, 1) := by decide +kernel
theorem dX8_lackNow_10 : decode cX8_lackNow 10 = .ok (.iload_n 3, 1) := by decide +kernel
theorem dX8_lackNow_11 : decode cX8_lackNow 11 = .ok (.iconst 1, 1) := by decide +kernel
theorem dX8_lackNow_12 : decode cX8_lackNow 12 = .ok (.aload_n 0, 1) := by decide +kernel
theorem dX8_lackNow_13 : decode cX8_lackNow 13 = .ok (.getfield 19, 3) := by decide +kernel
theorem dX8_lackNow_16 : decode cX8_lackNow 16 = .ok (.iconst 0, 1) := by decide +kernel
theorem dX8_lackNow_17 : decode cX8_lackNow 17 = .ok (.iaload, 1) := by decide +kernel
theorem dX8_lackNow_18 : decode cX8_lackNow 18 = .ok (.ishl, 1) := by decide +kernel
theorem dX8_lackNow_19 : decode cX8_lackNow 19 = .ok (.if_icmp .ge 164, 3) := by decide +kernel
theorem dX8_lackNow_22 : decode cX8_lackNow 22 = .ok (.iconst 0, 1) := by decide +kernel
theorem dX8_lackNow_23 : decode cX8_lackNow 23 = .ok (.istore 4, 2) := by decide +kernel
theorem dX8_lackNow_25 : decode cX8_lackNow 25 = .ok (.iconst 0, 1) := by decide +kernel
theorem dX8_lackNow_26 : decode cX8_lackNow 26 = .ok (.istore 5, 2) := by decide +kernel
theorem dX8_lackNow_28 : decode cX8_lackNow 28 = .ok (.iload 5, 2) := by decide +kernel
theorem dX8_lackNow_30 : decode cX8_lackNow 30 = .ok (.aload_n 0, 1) := by decide +kernel
theorem dX8_lackNow_31 : decode cX8_lackNow 31 = .ok (.getfield 19, 3) := by decide +kernel
theorem dX8_lackNow_34 : decode cX8_lackNow 34 = .ok (.iconst 1, 1) := by decide +kernel
theorem dX8_lackNow_35 : decode cX8_lackNow 35 = .ok (.iaload, 1) := by decide +kernel
theorem dX8_lackNow_36 : decode cX8_lackNow 36 = .ok (.if_icmp .ge 79, 3) := by decide +kernel
theorem dX8_lackNow_39 : decode cX8_lackNow 39 = .ok (.iconst 0, 1) := by decide +kernel
theorem dX8_lackNow_40 : decode cX8_lackNow 40 = .ok (.istore 6, 2) := by decide +kernel
theorem dX8_lackNow_42 : decode cX8_lackNow 42 = .ok (.iconst 0, 1) := by decide +kernel
theorem dX8_lackNow_43 : decode cX8_lackNow 43 = .ok (.istore 7, 2) := by decide +kernel
theorem dX8_lackNow_45 : decode cX8_lackNow 45 = .ok (.iload 7, 2) := by decide +kernel
theorem dX8_lackNow_47 : decode cX8_lackNow 47 = .ok (.aload_n 0, 1) := by decide +kernel
theorem dX8_lackNow_48 : decode cX8_lackNow 48 = .ok (.getfield 19, 3) := by decide +kernel
theorem dX8_lackNow_51 : decode cX8_lackNow 51 = .ok (.iconst 0, 1) := by decide +kernel
theorem dX8_lackNow_52 : decode cX8_lackNow 52 = .ok (.iaload, 1) := by decide +kernel
theorem dX8_lackNow_53 : decode cX8_lackNow 53 = .ok (.if_icmp .ge 41, 3) := by decide +kernel
theorem dX8_lackNow_56 : decode cX8_lackNow 56 = .ok (.iload 6, 2) := by decide +kernel
theorem dX8_lackNow_58 : decode cX8_lackNow 58 = .ok (.ifCond .ne 23, 3) := by decide +kernel
theorem dX8_lackNow_61 : decode cX8_lackNow 61 = .ok (.iload_n 3, 1) := by decide +kernel
theorem dX8_lackNow_62 : decode cX8_lackNow 62 = .ok (.iload 7, 2) := by decide +kernel
theorem dX8_lackNow_64 : decode cX8_lackNow 64 = .ok (.invokestatic 126, 3) := by decide +kernel
theorem dX8_lackNow_67 : decode cX8_lackNow 67 = .ok (.ifCond .eq 18, 3) := by decide +kernel
theorem dX8_lackNow_70 : decode cX8_lackNow 70 = .ok (.aload_n 0, 1) := by decide +kernel
theorem dX8_lackNow_71 : decode cX8_lackNow 71 = .ok (.iload 5, 2) := by decide +kernel
theorem dX8_lackNow_73 : decode cX8_lackNow 73 = .ok (.iload 7, 2) := by decide +kernel
theorem dX8_lackNow_75 : decode cX8_lackNow 75 = .ok (.invokevirtual 211, 3) := by decide +kernel
theorem dX8_lackNow_78 : decode cX8_lackNow 78 = .ok (.ifCond .eq 7, 3) := by decide +kernel
theorem dX8_lackNow_81 : decode cX8_lackNow 81 = .ok (.iconst 1, 1) := by decide +kernel
theorem dX8_lackNow_82 : decode cX8_lackNow 82 = .ok (.goto 4, 3) := by decide +kernel
theorem dX8_lackNow_85 : decode cX8_lackNow 85 = .ok (.iconst 0, 1) := by decide +kernel
theorem dX8_lackNow_86 : decode cX8_lackNow 86 = .ok (.istore 6, 2) := by decide +kernel
theorem dX8_lackNow_88 : decode cX8_lackNow 88 = .ok (.iinc 7 1, 3) := by decide +kernel
theorem dX8_lackNow_91 : decode cX8_lackNow 91 = .ok (.goto (-46), 3) := by decide +kernel
theorem dX8_lackNow_94 : decode cX8_lackNow 94 = .ok (.iload 4, 2) := by decide +kernel
theorem dX8_lackNow_96 : decode cX8_lackNow 96 = .ok (.iload 6, 2) := by decide +kernel
theorem dX8_lackNow_98 : decode cX8_lackNow 98 = .ok (.ifCond .eq 7, 3) := by decide +kernel
theorem dX8_lackNow_101 : decode cX8_lackNow 101 = .ok (.iconst 1, 1) := by decide +kernel
theorem dX8_lackNow_102 : decode cX8_lackNow 102 = .ok (.goto 4, 3) := by decide +kernel
theorem dX8_lackNow_105 : decode cX8_lackNow 105 = .ok (.iconst 0, 1) := by decide +kernel
theorem dX8_lackNow_106 : decode cX8_lackNow 106 = .ok (.iadd, 1) := by decide +kernel
theorem dX8_lackNow_107 : decode cX8_lackNow 107 = .ok (.istore 4, 2) := by decide +kernel
theorem dX8_lackNow_109 : decode cX8_lackNow 109 = .ok (.iinc 5 1, 3) := by decide +kernel
theorem dX8_lackNow_112 : decode cX8_lackNow 112 = .ok (.goto (-84), 3) := by decide +kernel
theorem dX8_lackNow_115 : decode cX8_lackNow 115 = .ok (.iload_n 3, 1) := by decide +kernel
theorem dX8_lackNow_116 : decode cX8_lackNow 116 = .ok (.invokestatic 157, 3) := by decide +kernel
theorem dX8_lackNow_119 : decode cX8_lackNow 119 = .ok (.iload 4, 2) := by decide +kernel
theorem dX8_lackNow_121 : decode cX8_lackNow 121 = .ok (.isub, 1) := by decide +kernel
theorem dX8_lackNow_122 : decode cX8_lackNow 122 = .ok (.istore 5, 2) := by decide +kernel
theorem dX8_lackNow_124 : decode cX8_lackNow 124 = .ok (.iload 5, 2) := by decide +kernel
theorem dX8_lackNow_126 : decode cX8_lackNow 126 = .ok (.iload_n 2, 1) := by decide +kernel
theorem dX8_lackNow_127 : decode cX8_lackNow 127 = .ok (.if_icmp .gt 20, 3) := by decide +kernel
theorem dX8_lackNow_130 : decode cX8_lackNow 130 = .ok (.iload 5, 2) := by decide +kernel
theorem dX8_lackNow_132 : decode cX8_lackNow 132 = .ok (.iload_n 2, 1) := by decide +kernel
theorem dX8_lackNow_133 : decode cX8_lackNow 133 = .ok (.if_icmp .ne 18, 3) := by decide +kernel
theorem dX8_lackNow_136 : decode cX8_lackNow 136 = .ok (.iload_n 3, 1) := by decide +kernel
theorem dX8_lackNow_137 : decode cX8_lackNow 137 = .ok (.invokestatic 157, 3) := by decide +kernel
theorem dX8_lackNow_140 : decode cX8_lackNow 140 = .ok (.iload_n 1, 1) := by decide +kernel
theorem dX8_lackNow_141 : decode cX8_lackNow 141 = .ok (.invokestatic 157, 3) := by decide +kernel
theorem dX8_lackNow_144 : decode cX8_lackNow 144 = .ok (.if_icmp .ge 7, 3) := by decide +kernel
theorem dX8_lackNow_147 : decode cX8_lackNow 147 = .ok (.iconst 1, 1) := by decide +kernel
theorem dX8_lackNow_148 : decode cX8_lackNow 148 = .ok (.goto 4, 3) := by decide +kernel
theorem dX8_lackNow_151 : decode cX8_lackNow 151 = .ok (.iconst 0, 1) := by decide +kernel
theorem dX8_lackNow_152 : decode cX8_lackNow 152 = .ok (.istore 6, 2) := by decide +kernel
theorem dX8_lackNow_154 : decode cX8_lackNow 154 = .ok (.iload 6, 2) := by decide +kernel
theorem dX8_lackNow_156 : decode cX8_lackNow 156 = .ok (.ifCond .eq 7, 3) := by decide +kernel
theorem dX8_lackNow_159 : decode cX8_lackNow 159 = .ok (.iload_n 3, 1) := by decide +kernel
theorem dX8_lackNow_160 : decode cX8_lackNow 160 = .ok (.goto 4, 3) := by decide +kernel
theorem dX8_lackNow_163 : decode cX8_lackNow 163 = .ok (.iload_n 1, 1) := by decide +kernel
theorem dX8_lackNow_164 : decode cX8_lackNow 164 = .ok (.istore_n 1, 1) := by decide +kernel
theorem dX8_lackNow_165 : decode cX8_lackNow 165 = .ok (.iload 6, 2) := by decide +kernel
theorem dX8_lackNow_167 : decode cX8_lackNow 167 = .ok (.ifCond .eq 8, 3) := by decide +kernel
theorem dX8_lackNow_170 : decode cX8_lackNow 170 = .ok (.iload 5, 2) := by decide +kernel
theorem dX8_lackNow_172 : decode cX8_lackNow 172 = .ok (.goto 4, 3) := by decide +kernel
theorem dX8_lackNow_175 : decode cX8_lackNow 175 = .ok (.iload_n 2, 1) := by decide +kernel
theorem dX8_lackNow_176 : decode cX8_lackNow 176 = .ok (.istore_n 2, 1) := by decide +kernel
theorem dX8_lackNow_177 : decode cX8_lackNow 177 = .ok (.iinc 3 1, 3) := by decide +kernel
theorem dX8_lackNow_180 : decode cX8_lackNow 180 = .ok (.goto (-170), 3) := by decide +kernel
theorem dX8_lackNow_183 : decode cX8_lackNow 183 = .ok (.iload_n 1, 1) := by decide +kernel
theorem dX8_lackNow_184 : decode cX8_lackNow 184 = .ok (.ireturn, 1) := by decide +kernel
theorem dX8_lack_0 : decode cX8_lack 0 = .ok (.aload_n 0, 1) := by decide +kernel
theorem dX8_lack_1 : decode cX8_lack 1 = .ok (.invokevirtual 217, 3) := by decide +kernel
theorem dX8_lack_4 : decode cX8_lack 4 = .ok (.ireturn, 1) := by decide +kernel
theorem dX8_unaskedNow_0 : decode cX8_unaskedNow 0 = .ok (.aload_n 0, 1) := by decide +kernel
theorem dX8_unaskedNow_1 : decode cX8_unaskedNow 1 = .ok (.invokevirtual 102, 3) := by decide +kernel
theorem dX8_unaskedNow_4 : decode cX8_unaskedNow 4 = .ok (.iconst 0, 1) := by decide +kernel
theorem dX8_unaskedNow_5 : decode cX8_unaskedNow 5 = .ok (.istore_n 1, 1) := by decide +kernel
theorem dX8_unaskedNow_6 : decode cX8_unaskedNow 6 = .ok (.iconst 0, 1) := by decide +kernel
theorem dX8_unaskedNow_7 : decode cX8_unaskedNow 7 = .ok (.istore_n 2, 1) := by decide +kernel
theorem dX8_unaskedNow_8 : decode cX8_unaskedNow 8 = .ok (.iload_n 2, 1) := by decide +kernel
theorem dX8_unaskedNow_9 : decode cX8_unaskedNow 9 = .ok (.aload_n 0, 1) := by decide +kernel
theorem dX8_unaskedNow_10 : decode cX8_unaskedNow 10 = .ok (.getfield 19, 3) := by decide +kernel
theorem dX8_unaskedNow_13 : decode cX8_unaskedNow 13 = .ok (.iconst 1, 1) := by decide +kernel
theorem dX8_unaskedNow_14 : decode cX8_unaskedNow 14 = .ok (.iaload, 1) := by decide +kernel
theorem dX8_unaskedNow_15 : decode cX8_unaskedNow 15 = .ok (.if_icmp .ge 65, 3) := by decide +kernel
theorem dX8_unaskedNow_18 : decode cX8_unaskedNow 18 = .ok (.iconst 0, 1) := by decide +kernel
theorem dX8_unaskedNow_19 : decode cX8_unaskedNow 19 = .ok (.istore_n 3, 1) := by decide +kernel
theorem dX8_unaskedNow_20 : decode cX8_unaskedNow 20 = .ok (.iconst 0, 1) := by decide +kernel
theorem dX8_unaskedNow_21 : decode cX8_unaskedNow 21 = .ok (.istore 4, 2) := by decide +kernel
theorem dX8_unaskedNow_23 : decode cX8_unaskedNow 23 = .ok (.iload 4, 2) := by decide +kernel
theorem dX8_unaskedNow_25 : decode cX8_unaskedNow 25 = .ok (.aload_n 0, 1) := by decide +kernel
theorem dX8_unaskedNow_26 : decode cX8_unaskedNow 26 = .ok (.getfield 19, 3) := by decide +kernel
theorem dX8_unaskedNow_29 : decode cX8_unaskedNow 29 = .ok (.iconst 0, 1) := by decide +kernel
theorem dX8_unaskedNow_30 : decode cX8_unaskedNow 30 = .ok (.iaload, 1) := by decide +kernel
theorem dX8_unaskedNow_31 : decode cX8_unaskedNow 31 = .ok (.if_icmp .ge 29, 3) := by decide +kernel
theorem dX8_unaskedNow_34 : decode cX8_unaskedNow 34 = .ok (.iload_n 3, 1) := by decide +kernel
theorem dX8_unaskedNow_35 : decode cX8_unaskedNow 35 = .ok (.ifCond .ne 13, 3) := by decide +kernel
theorem dX8_unaskedNow_38 : decode cX8_unaskedNow 38 = .ok (.aload_n 0, 1) := by decide +kernel
theorem dX8_unaskedNow_39 : decode cX8_unaskedNow 39 = .ok (.iload_n 2, 1) := by decide +kernel
theorem dX8_unaskedNow_40 : decode cX8_unaskedNow 40 = .ok (.iload 4, 2) := by decide +kernel
theorem dX8_unaskedNow_42 : decode cX8_unaskedNow 42 = .ok (.invokevirtual 211, 3) := by decide +kernel
theorem dX8_unaskedNow_45 : decode cX8_unaskedNow 45 = .ok (.ifCond .eq 7, 3) := by decide +kernel
theorem dX8_unaskedNow_48 : decode cX8_unaskedNow 48 = .ok (.iconst 1, 1) := by decide +kernel
theorem dX8_unaskedNow_49 : decode cX8_unaskedNow 49 = .ok (.goto 4, 3) := by decide +kernel
theorem dX8_unaskedNow_52 : decode cX8_unaskedNow 52 = .ok (.iconst 0, 1) := by decide +kernel
theorem dX8_unaskedNow_53 : decode cX8_unaskedNow 53 = .ok (.istore_n 3, 1) := by decide +kernel
theorem dX8_unaskedNow_54 : decode cX8_unaskedNow 54 = .ok (.iinc 4 1, 3) := by decide +kernel
theorem dX8_unaskedNow_57 : decode cX8_unaskedNow 57 = .ok (.goto (-34), 3) := by decide +kernel
theorem dX8_unaskedNow_60 : decode cX8_unaskedNow 60 = .ok (.iload_n 1, 1) := by decide +kernel
theorem dX8_unaskedNow_61 : decode cX8_unaskedNow 61 = .ok (.iload_n 3, 1) := by decide +kernel
theorem dX8_unaskedNow_62 : decode cX8_unaskedNow 62 = .ok (.ifCond .eq 7, 3) := by decide +kernel
theorem dX8_unaskedNow_65 : decode cX8_unaskedNow 65 = .ok (.iconst 0, 1) := by decide +kernel
theorem dX8_unaskedNow_66 : decode cX8_unaskedNow 66 = .ok (.goto 6, 3) := by decide +kernel
theorem dX8_unaskedNow_69 : decode cX8_unaskedNow 69 = .ok (.iconst 1, 1) := by decide +kernel
theorem dX8_unaskedNow_70 : decode cX8_unaskedNow 70 = .ok (.iload_n 2, 1) := by decide +kernel
theorem dX8_unaskedNow_71 : decode cX8_unaskedNow 71 = .ok (.ishl, 1) := by decide +kernel
theorem dX8_unaskedNow_72 : decode cX8_unaskedNow 72 = .ok (.ior, 1) := by decide +kernel
theorem dX8_unaskedNow_73 : decode cX8_unaskedNow 73 = .ok (.istore_n 1, 1) := by decide +kernel
theorem dX8_unaskedNow_74 : decode cX8_unaskedNow 74 = .ok (.iinc 2 1, 3) := by decide +kernel
theorem dX8_unaskedNow_77 : decode cX8_unaskedNow 77 = .ok (.goto (-69), 3) := by decide +kernel
theorem dX8_unaskedNow_80 : decode cX8_unaskedNow 80 = .ok (.iload_n 1, 1) := by decide +kernel
theorem dX8_unaskedNow_81 : decode cX8_unaskedNow 81 = .ok (.ireturn, 1) := by decide +kernel
theorem dX8_unasked_0 : decode cX8_unasked 0 = .ok (.aload_n 0, 1) := by decide +kernel
theorem dX8_unasked_1 : decode cX8_unasked 1 = .ok (.invokevirtual 220, 3) := by decide +kernel
theorem dX8_unasked_4 : decode cX8_unasked 4 = .ok (.ireturn, 1) := by decide +kernel
theorem dX8_fines_0 : decode cX8_fines 0 = .ok (.iload_n 1, 1) := by decide +kernel
theorem dX8_fines_1 : decode cX8_fines 1 = .ok (.invokestatic 184, 3) := by decide +kernel
theorem dX8_fines_4 : decode cX8_fines 4 = .ok (.ifCond .eq 16, 3) := by decide +kernel
theorem dX8_fines_7 : decode cX8_fines 7 = .ok (.aload_n 0, 1) := by decide +kernel
theorem dX8_fines_8 : decode cX8_fines 8 = .ok (.iload_n 1, 1) := by decide +kernel
theorem dX8_fines_9 : decode cX8_fines 9 = .ok (.invokevirtual 214, 3) := by decide +kernel
theorem dX8_fines_12 : decode cX8_fines 12 = .ok (.aload_n 0, 1) := by decide +kernel
theorem dX8_fines_13 : decode cX8_fines 13 = .ok (.getfield 63, 3) := by decide +kernel
theorem dX8_fines_16 : decode cX8_fines 16 = .ok (.imul, 1) := by decide +kernel
theorem dX8_fines_17 : decode cX8_fines 17 = .ok (.goto 5, 3) := by decide +kernel
theorem dX8_fines_20 : decode cX8_fines 20 = .ok (.bipush (-2), 2) := by decide +kernel
theorem dX8_fines_22 : decode cX8_fines 22 = .ok (.ireturn, 1) := by decide +kernel
theorem dX8_seen_0 : decode cX8_seen 0 = .ok (.iload_n 1, 1) := by decide +kernel
theorem dX8_seen_1 : decode cX8_seen 1 = .ok (.invokestatic 114, 3) := by decide +kernel
theorem dX8_seen_4 : decode cX8_seen 4 = .ok (.ifCond .eq 12, 3) := by decide +kernel
theorem dX8_seen_7 : decode cX8_seen 7 = .ok (.iload_n 2, 1) := by decide +kernel
theorem dX8_seen_8 : decode cX8_seen 8 = .ok (.iconst 0, 1) := by decide +kernel
theorem dX8_seen_9 : decode cX8_seen 9 = .ok (.iconst 1, 1) := by decide +kernel
theorem dX8_seen_10 : decode cX8_seen 10 = .ok (.invokestatic 66, 3) := by decide +kernel
theorem dX8_seen_13 : decode cX8_seen 13 = .ok (.ifCond .ne 6, 3) := by decide +kernel
theorem dX8_seen_16 : decode cX8_seen 16 = .ok (.bipush (-2), 2) := by decide +kernel
theorem dX8_seen_18 : decode cX8_seen 18 = .ok (.ireturn, 1) := by decide +kernel
theorem dX8_seen_19 : decode cX8_seen 19 = .ok (.aload_n 0, 1) := by decide +kernel
theorem dX8_seen_20 : decode cX8_seen 20 = .ok (.getfield 223, 3) := by decide +kernel
theorem dX8_seen_23 : decode cX8_seen 23 = .ok (.bipush 8, 2) := by decide +kernel
theorem dX8_seen_25 : decode cX8_seen 25 = .ok (.if_icmp .ne 6, 3) := by decide +kernel
theorem dX8_seen_28 : decode cX8_seen 28 = .ok (.bipush (-4), 2) := by decide +kernel
theorem dX8_seen_30 : decode cX8_seen 30 = .ok (.ireturn, 1) := by decide +kernel
theorem dX8_seen_31 : decode cX8_seen 31 = .ok (.aload_n 0, 1) := by decide +kernel
theorem dX8_seen_32 : decode cX8_seen 32 = .ok (.getfield 37, 3) := by decide +kernel
theorem dX8_seen_35 : decode cX8_seen 35 = .ok (.aload_n 0, 1) := by decide +kernel
theorem dX8_seen_36 : decode cX8_seen 36 = .ok (.getfield 223, 3) := by decide +kernel
theorem dX8_seen_39 : decode cX8_seen 39 = .ok (.iload_n 1, 1) := by decide +kernel
theorem dX8_seen_40 : decode cX8_seen 40 = .ok (.iastore, 1) := by decide +kernel
theorem dX8_seen_41 : decode cX8_seen 41 = .ok (.aload_n 0, 1) := by decide +kernel
theorem dX8_seen_42 : decode cX8_seen 42 = .ok (.getfield 40, 3) := by decide +kernel
theorem dX8_seen_45 : decode cX8_seen 45 = .ok (.aload_n 0, 1) := by decide +kernel
theorem dX8_seen_46 : decode cX8_seen 46 = .ok (.getfield 223, 3) := by decide +kernel
theorem dX8_seen_49 : decode cX8_seen 49 = .ok (.iload_n 2, 1) := by decide +kernel
theorem dX8_seen_50 : decode cX8_seen 50 = .ok (.iastore, 1) := by decide +kernel
theorem dX8_seen_51 : decode cX8_seen 51 = .ok (.aload_n 0, 1) := by decide +kernel
theorem dX8_seen_52 : decode cX8_seen 52 = .ok (.dup, 1) := by decide +kernel
theorem dX8_seen_53 : decode cX8_seen 53 = .ok (.getfield 223, 3) := by decide +kernel
theorem dX8_seen_56 : decode cX8_seen 56 = .ok (.iconst 1, 1) := by decide +kernel
theorem dX8_seen_57 : decode cX8_seen 57 = .ok (.iadd, 1) := by decide +kernel
theorem dX8_seen_58 : decode cX8_seen 58 = .ok (.putfield 223, 3) := by decide +kernel
theorem dX8_seen_61 : decode cX8_seen 61 = .ok (.aload_n 0, 1) := by decide +kernel
theorem dX8_seen_62 : decode cX8_seen 62 = .ok (.getfield 223, 3) := by decide +kernel
theorem dX8_seen_65 : decode cX8_seen 65 = .ok (.ireturn, 1) := by decide +kernel
theorem dX8_forget_0 : decode cX8_forget 0 = .ok (.aload_n 0, 1) := by decide +kernel
theorem dX8_forget_1 : decode cX8_forget 1 = .ok (.getfield 223, 3) := by decide +kernel
theorem dX8_forget_4 : decode cX8_forget 4 = .ok (.istore_n 1, 1) := by decide +kernel
theorem dX8_forget_5 : decode cX8_forget 5 = .ok (.aload_n 0, 1) := by decide +kernel
theorem dX8_forget_6 : decode cX8_forget 6 = .ok (.iconst 0, 1) := by decide +kernel
theorem dX8_forget_7 : decode cX8_forget 7 = .ok (.putfield 223, 3) := by decide +kernel
theorem dX8_forget_10 : decode cX8_forget 10 = .ok (.iload_n 1, 1) := by decide +kernel
theorem dX8_forget_11 : decode cX8_forget 11 = .ok (.ireturn, 1) := by decide +kernel
theorem dX8_refusedOf_0 : decode cX8_refusedOf 0 = .ok (.aload_n 0, 1) := by decide +kernel
theorem dX8_refusedOf_1 : decode cX8_refusedOf 1 = .ok (.invokevirtual 139, 3) := by decide +kernel
theorem dX8_refusedOf_4 : decode cX8_refusedOf 4 = .ok (.istore_n 2, 1) := by decide +kernel
theorem dX8_refusedOf_5 : decode cX8_refusedOf 5 = .ok (.iconst 0, 1) := by decide +kernel
theorem dX8_refusedOf_6 : decode cX8_refusedOf 6 = .ok (.istore_n 3, 1) := by decide +kernel
theorem dX8_refusedOf_7 : decode cX8_refusedOf 7 = .ok (.iconst 0, 1) := by decide +kernel
theorem dX8_refusedOf_8 : decode cX8_refusedOf 8 = .ok (.istore 4, 2) := by decide +kernel
theorem dX8_refusedOf_10 : decode cX8_refusedOf 10 = .ok (.iconst 0, 1) := by decide +kernel
theorem dX8_refusedOf_11 : decode cX8_refusedOf 11 = .ok (.istore 5, 2) := by decide +kernel
theorem dX8_refusedOf_13 : decode cX8_refusedOf 13 = .ok (.iload 5, 2) := by decide +kernel
theorem dX8_refusedOf_15 : decode cX8_refusedOf 15 = .ok (.aload_n 0, 1) := by decide +kernel
theorem dX8_refusedOf_16 : decode cX8_refusedOf 16 = .ok (.getfield 86, 3) := by decide +kernel
theorem dX8_refusedOf_19 : decode cX8_refusedOf 19 = .ok (.if_icmp .ge 37, 3) := by decide +kernel
theorem dX8_refusedOf_22 : decode cX8_refusedOf 22 = .ok (.iload 4, 2) := by decide +kernel
theorem dX8_refusedOf_24 : decode cX8_refusedOf 24 = .ok (.aload_n 0, 1) := by decide +kernel
theorem dX8_refusedOf_25 : decode cX8_refusedOf 25 = .ok (.getfield 16, 3) := by decide +kernel
theorem dX8_refusedOf_28 : decode cX8_refusedOf 28 = .ok (.bipush 6, 2) := by decide +kernel
theorem dX8_refusedOf_30 : decode cX8_refusedOf 30 = .ok (.iload 5, 2) := by decide +kernel
theorem dX8_refusedOf_32 : decode cX8_refusedOf 32 = .ok (.imul, 1) := by decide +kernel
theorem dX8_refusedOf_33 : decode cX8_refusedOf 33 = .ok (.iconst 3, 1) := by decide +kernel
theorem dX8_refusedOf_34 : decode cX8_refusedOf 34 = .ok (.iadd, 1) := by decide +kernel
theorem dX8_refusedOf_35 : decode cX8_refusedOf 35 = .ok (.iaload, 1) := by decide +kernel
theorem dX8_refusedOf_36 : decode cX8_refusedOf 36 = .ok (.ifCond .ne 10, 3) := by decide +kernel
theorem dX8_refusedOf_39 : decode cX8_refusedOf 39 = .ok (.iconst 1, 1) := by decide +kernel
theorem dX8_refusedOf_40 : decode cX8_refusedOf 40 = .ok (.iload 5, 2) := by decide +kernel
theorem dX8_refusedOf_42 : decode cX8_refusedOf 42 = .ok (.ishl, 1) := by decide +kernel
theorem dX8_refusedOf_43 : decode cX8_refusedOf 43 = .ok (.goto 4, 3) := by decide +kernel
theorem dX8_refusedOf_46 : decode cX8_refusedOf 46 = .ok (.iconst 0, 1) := by decide +kernel
theorem dX8_refusedOf_47 : decode cX8_refusedOf 47 = .ok (.ior, 1) := by decide +kernel
theorem dX8_refusedOf_48 : decode cX8_refusedOf 48 = .ok (.istore 4, 2) := by decide +kernel
theorem dX8_refusedOf_50 : decode cX8_refusedOf 50 = .ok (.iinc 5 1, 3) := by decide +kernel
theorem dX8_refusedOf_53 : decode cX8_refusedOf 53 = .ok (.goto (-40), 3) := by decide +kernel
theorem dX8_refusedOf_56 : decode cX8_refusedOf 56 = .ok (.iconst 0, 1) := by decide +kernel
theorem dX8_refusedOf_57 : decode cX8_refusedOf 57 = .ok (.istore 5, 2) := by decide +kernel
theorem dX8_refusedOf_59 : decode cX8_refusedOf 59 = .ok (.iload 5, 2) := by decide +kernel
theorem dX8_refusedOf_61 : decode cX8_refusedOf 61 = .ok (.iload_n 2, 1) := by decide +kernel
theorem dX8_refusedOf_62 : decode cX8_refusedOf 62 = .ok (.if_icmp .gt 110, 3) := by decide +kernel
theorem dX8_refusedOf_65 : decode cX8_refusedOf 65 = .ok (.aload_n 0, 1) := by decide +kernel
theorem dX8_refusedOf_66 : decode cX8_refusedOf 66 = .ok (.iload 5, 2) := by decide +kernel
theorem dX8_refusedOf_68 : decode cX8_refusedOf 68 = .ok (.aload_n 0, 1) := by decide +kernel
theorem dX8_refusedOf_69 : decode cX8_refusedOf 69 = .ok (.getfield 111, 3) := by decide +kernel
theorem dX8_refusedOf_72 : decode cX8_refusedOf 72 = .ok (.invokevirtual 142, 3) := by decide +kernel
theorem dX8_refusedOf_75 : decode cX8_refusedOf 75 = .ok (.ifCond .ne 7, 3) := by decide +kernel
theorem dX8_refusedOf_78 : decode cX8_refusedOf 78 = .ok (.iconst 1, 1) := by decide +kernel
theorem dX8_refusedOf_79 : decode cX8_refusedOf 79 = .ok (.goto 4, 3) := by decide +kernel
theorem dX8_refusedOf_82 : decode cX8_refusedOf 82 = .ok (.iconst 0, 1) := by decide +kernel
theorem dX8_refusedOf_83 : decode cX8_refusedOf 83 = .ok (.istore 6, 2) := by decide +kernel
theorem dX8_refusedOf_85 : decode cX8_refusedOf 85 = .ok (.iconst 0, 1) := by decide +kernel
theorem dX8_refusedOf_86 : decode cX8_refusedOf 86 = .ok (.istore 7, 2) := by decide +kernel
theorem dX8_refusedOf_88 : decode cX8_refusedOf 88 = .ok (.iload 7, 2) := by decide +kernel
theorem dX8_refusedOf_90 : decode cX8_refusedOf 90 = .ok (.aload_n 0, 1) := by decide +kernel
theorem dX8_refusedOf_91 : decode cX8_refusedOf 91 = .ok (.getfield 223, 3) := by decide +kernel
theorem dX8_refusedOf_94 : decode cX8_refusedOf 94 = .ok (.if_icmp .ge 43, 3) := by decide +kernel
theorem dX8_refusedOf_97 : decode cX8_refusedOf 97 = .ok (.iload 6, 2) := by decide +kernel
theorem dX8_refusedOf_99 : decode cX8_refusedOf 99 = .ok (.ifCond .eq 29, 3) := by decide +kernel
theorem dX8_refusedOf_102 : decode cX8_refusedOf 102 = .ok (.iload 5, 2) := by decide +kernel
theorem dX8_refusedOf_104 : decode cX8_refusedOf 104 = .ok (.aload_n 0, 1) := by decide +kernel
theorem dX8_refusedOf_105 : decode cX8_refusedOf 105 = .ok (.getfield 37, 3) := by decide +kernel
theorem dX8_refusedOf_108 : decode cX8_refusedOf 108 = .ok (.iload 7, 2) := by decide +kernel
theorem dX8_refusedOf_110 : decode cX8_refusedOf 110 = .ok (.iaload, 1) := by decide +kernel
theorem dX8_refusedOf_111 : decode cX8_refusedOf 111 = .ok (.ishr, 1) := by decide +kernel
theorem dX8_refusedOf_112 : decode cX8_refusedOf 112 = .ok (.iconst 1, 1) := by decide +kernel
theorem dX8_refusedOf_113 : decode cX8_refusedOf 113 = .ok (.iand, 1) := by decide +kernel
theorem dX8_refusedOf_114 : decode cX8_refusedOf 114 = .ok (.aload_n 0, 1) := by decide +kernel
theorem dX8_refusedOf_115 : decode cX8_refusedOf 115 = .ok (.getfield 40, 3) := by decide +kernel
theorem dX8_refusedOf_118 : decode cX8_refusedOf 118 = .ok (.iload 7, 2) := by decide +kernel
theorem dX8_refusedOf_120 : decode cX8_refusedOf 120 = .ok (.iaload, 1) := by decide +kernel
theorem dX8_refusedOf_121 : decode cX8_refusedOf 121 = .ok (.if_icmp .ne 7, 3) := by decide +kernel
theorem dX8_refusedOf_124 : decode cX8_refusedOf 124 = .ok (.iconst 1, 1) := by decide +kernel
theorem dX8_refusedOf_125 : decode cX8_refusedOf 125 = .ok (.goto 4, 3) := by decide +kernel
theorem dX8_refusedOf_128 : decode cX8_refusedOf 128 = .ok (.iconst 0, 1) := by decide +kernel
theorem dX8_refusedOf_129 : decode cX8_refusedOf 129 = .ok (.istore 6, 2) := by decide +kernel
theorem dX8_refusedOf_131 : decode cX8_refusedOf 131 = .ok (.iinc 7 1, 3) := by decide +kernel
theorem dX8_refusedOf_134 : decode cX8_refusedOf 134 = .ok (.goto (-46), 3) := by decide +kernel
theorem dX8_refusedOf_137 : decode cX8_refusedOf 137 = .ok (.iload_n 3, 1) := by decide +kernel
theorem dX8_refusedOf_138 : decode cX8_refusedOf 138 = .ok (.iload 6, 2) := by decide +kernel
theorem dX8_refusedOf_140 : decode cX8_refusedOf 140 = .ok (.ifCond .eq 7, 3) := by decide +kernel
theorem dX8_refusedOf_143 : decode cX8_refusedOf 143 = .ok (.iconst 1, 1) := by decide +kernel
theorem dX8_refusedOf_144 : decode cX8_refusedOf 144 = .ok (.goto 4, 3) := by decide +kernel
theorem dX8_refusedOf_147 : decode cX8_refusedOf 147 = .ok (.iconst 0, 1) := by decide +kernel
theorem dX8_refusedOf_148 : decode cX8_refusedOf 148 = .ok (.iadd, 1) := by decide +kernel
theorem dX8_refusedOf_149 : decode cX8_refusedOf 149 = .ok (.istore_n 3, 1) := by decide +kernel
theorem dX8_refusedOf_150 : decode cX8_refusedOf 150 = .ok (.iload 4, 2) := by decide +kernel
theorem dX8_refusedOf_152 : decode cX8_refusedOf 152 = .ok (.iload 6, 2) := by decide +kernel
theorem dX8_refusedOf_154 : decode cX8_refusedOf 154 = .ok (.ifCond .eq 8, 3) := by decide +kernel
theorem dX8_refusedOf_157 : decode cX8_refusedOf 157 = .ok (.iload 5, 2) := by decide +kernel
theorem dX8_refusedOf_159 : decode cX8_refusedOf 159 = .ok (.goto 4, 3) := by decide +kernel
theorem dX8_refusedOf_162 : decode cX8_refusedOf 162 = .ok (.iload_n 2, 1) := by decide +kernel
theorem dX8_refusedOf_163 : decode cX8_refusedOf 163 = .ok (.iand, 1) := by decide +kernel
theorem dX8_refusedOf_164 : decode cX8_refusedOf 164 = .ok (.istore 4, 2) := by decide +kernel
theorem dX8_refusedOf_166 : decode cX8_refusedOf 166 = .ok (.iinc 5 1, 3) := by decide +kernel
theorem dX8_refusedOf_169 : decode cX8_refusedOf 169 = .ok (.goto (-110), 3) := by decide +kernel
theorem dX8_refusedOf_172 : decode cX8_refusedOf 172 = .ok (.iload_n 1, 1) := by decide +kernel
theorem dX8_refusedOf_173 : decode cX8_refusedOf 173 = .ok (.ifCond .ne 7, 3) := by decide +kernel
theorem dX8_refusedOf_176 : decode cX8_refusedOf 176 = .ok (.iload_n 3, 1) := by decide +kernel
theorem dX8_refusedOf_177 : decode cX8_refusedOf 177 = .ok (.goto 13, 3) := by decide +kernel
theorem dX8_refusedOf_180 : decode cX8_refusedOf 180 = .ok (.iload_n 3, 1) := by decide +kernel
theorem dX8_refusedOf_181 : decode cX8_refusedOf 181 = .ok (.ifCond .ne 7, 3) := by decide +kernel
theorem dX8_refusedOf_184 : decode cX8_refusedOf 184 = .ok (.iconst 0, 1) := by decide +kernel
theorem dX8_refusedOf_185 : decode cX8_refusedOf 185 = .ok (.goto 5, 3) := by decide +kernel
theorem dX8_refusedOf_188 : decode cX8_refusedOf 188 = .ok (.iload 4, 2) := by decide +kernel
theorem dX8_refusedOf_190 : decode cX8_refusedOf 190 = .ok (.ireturn, 1) := by decide +kernel
theorem dX8_refused_0 : decode cX8_refused 0 = .ok (.iload_n 1, 1) := by decide +kernel
theorem dX8_refused_1 : decode cX8_refused 1 = .ok (.iconst 0, 1) := by decide +kernel
theorem dX8_refused_2 : decode cX8_refused 2 = .ok (.iconst 1, 1) := by decide +kernel
theorem dX8_refused_3 : decode cX8_refused 3 = .ok (.invokestatic 66, 3) := by decide +kernel
theorem dX8_refused_6 : decode cX8_refused 6 = .ok (.ifCond .eq 11, 3) := by decide +kernel
theorem dX8_refused_9 : decode cX8_refused 9 = .ok (.aload_n 0, 1) := by decide +kernel
theorem dX8_refused_10 : decode cX8_refused 10 = .ok (.iload_n 1, 1) := by decide +kernel
theorem dX8_refused_11 : decode cX8_refused 11 = .ok (.invokevirtual 226, 3) := by decide +kernel
theorem dX8_refused_14 : decode cX8_refused 14 = .ok (.goto 5, 3) := by decide +kernel
theorem dX8_refused_17 : decode cX8_refused 17 = .ok (.bipush (-2), 2) := by decide +kernel
theorem dX8_refused_19 : decode cX8_refused 19 = .ok (.ireturn, 1) := by decide +kernel
theorem dX8_lotOf_0 : decode cX8_lotOf 0 = .ok (.aload_n 0, 1) := by decide +kernel
theorem dX8_lotOf_1 : decode cX8_lotOf 1 = .ok (.invokevirtual 139, 3) := by decide +kernel
theorem dX8_lotOf_4 : decode cX8_lotOf 4 = .ok (.istore_n 3, 1) := by decide +kernel
theorem dX8_lotOf_5 : decode cX8_lotOf 5 = .ok (.iload_n 1, 1) := by decide +kernel
theorem dX8_lotOf_6 : decode cX8_lotOf 6 = .ok (.istore 4, 2) := by decide +kernel
theorem dX8_lotOf_8 : decode cX8_lotOf 8 = .ok (.iconst 0, 1) := by decide +kernel
theorem dX8_lotOf_9 : decode cX8_lotOf 9 = .ok (.istore 5, 2) := by decide +kernel
theorem dX8_lotOf_11 : decode cX8_lotOf 11 = .ok (.iconst 0, 1) := by decide +kernel
theorem dX8_lotOf_12 : decode cX8_lotOf 12 = .ok (.istore 6, 2) := by decide +kernel
theorem dX8_lotOf_14 : decode cX8_lotOf 14 = .ok (.iconst 0, 1) := by decide +kernel
theorem dX8_lotOf_15 : decode cX8_lotOf 15 = .ok (.istore 7, 2) := by decide +kernel
theorem dX8_lotOf_17 : decode cX8_lotOf 17 = .ok (.iload 7, 2) := by decide +kernel
theorem dX8_lotOf_19 : decode cX8_lotOf 19 = .ok (.iload_n 2, 1) := by decide +kernel
theorem dX8_lotOf_20 : decode cX8_lotOf 20 = .ok (.ifCond .ne 7, 3) := by decide +kernel
theorem dX8_lotOf_23 : decode cX8_lotOf 23 = .ok (.iconst 1, 1) := by decide +kernel
theorem dX8_lotOf_24 : decode cX8_lotOf 24 = .ok (.goto 4, 3) := by decide +kernel
theorem dX8_lotOf_27 : decode cX8_lotOf 27 = .ok (.iload_n 2, 1) := by decide +kernel
theorem dX8_lotOf_28 : decode cX8_lotOf 28 = .ok (.if_icmp .ge 81, 3) := by decide +kernel
theorem dX8_lotOf_31 : decode cX8_lotOf 31 = .ok (.iconst 0, 1) := by decide +kernel
theorem dX8_lotOf_32 : decode cX8_lotOf 32 = .ok (.istore 6, 2) := by decide +kernel
theorem dX8_lotOf_34 : decode cX8_lotOf 34 = .ok (.iconst 0, 1) := by decide +kernel
theorem dX8_lotOf_35 : decode cX8_lotOf 35 = .ok (.istore 8, 2) := by decide +kernel
theorem dX8_lotOf_37 : decode cX8_lotOf 37 = .ok (.iload 8, 2) := by decide +kernel
theorem dX8_lotOf_39 : decode cX8_lotOf 39 = .ok (.aload_n 0, 1) := by decide +kernel
theorem dX8_lotOf_40 : decode cX8_lotOf 40 = .ok (.getfield 86, 3) := by decide +kernel
theorem dX8_lotOf_43 : decode cX8_lotOf 43 = .ok (.if_icmp .ge 35, 3) := by decide +kernel
theorem dX8_lotOf_46 : decode cX8_lotOf 46 = .ok (.ldc 229, 2) := by decide +kernel
theorem dX8_lotOf_48 : decode cX8_lotOf 48 = .ok (.iload 4, 2) := by decide +kernel
theorem dX8_lotOf_50 : decode cX8_lotOf 50 = .ok (.imul, 1) := by decide +kernel
theorem dX8_lotOf_51 : decode cX8_lotOf 51 = .ok (.sipush 12345, 3) := by decide +kernel
theorem dX8_lotOf_54 : decode cX8_lotOf 54 = .ok (.iadd, 1) := by decide +kernel
theorem dX8_lotOf_55 : decode cX8_lotOf 55 = .ok (.istore 4, 2) := by decide +kernel
theorem dX8_lotOf_57 : decode cX8_lotOf 57 = .ok (.iload 6, 2) := by decide +kernel
theorem dX8_lotOf_59 : decode cX8_lotOf 59 = .ok (.iload 4, 2) := by decide +kernel
theorem dX8_lotOf_61 : decode cX8_lotOf 61 = .ok (.bipush 16, 2) := by decide +kernel
theorem dX8_lotOf_63 : decode cX8_lotOf 63 = .ok (.iushr, 1) := by decide +kernel
theorem dX8_lotOf_64 : decode cX8_lotOf 64 = .ok (.iconst 2, 1) := by decide +kernel
theorem dX8_lotOf_65 : decode cX8_lotOf 65 = .ok (.irem, 1) := by decide +kernel
theorem dX8_lotOf_66 : decode cX8_lotOf 66 = .ok (.iload 8, 2) := by decide +kernel
theorem dX8_lotOf_68 : decode cX8_lotOf 68 = .ok (.ishl, 1) := by decide +kernel
theorem dX8_lotOf_69 : decode cX8_lotOf 69 = .ok (.ior, 1) := by decide +kernel
theorem dX8_lotOf_70 : decode cX8_lotOf 70 = .ok (.istore 6, 2) := by decide +kernel
theorem dX8_lotOf_72 : decode cX8_lotOf 72 = .ok (.iinc 8 1, 3) := by decide +kernel
theorem dX8_lotOf_75 : decode cX8_lotOf 75 = .ok (.goto (-38), 3) := by decide +kernel
theorem dX8_lotOf_78 : decode cX8_lotOf 78 = .ok (.iload 5, 2) := by decide +kernel
theorem dX8_lotOf_80 : decode cX8_lotOf 80 = .ok (.aload_n 0, 1) := by decide +kernel
theorem dX8_lotOf_81 : decode cX8_lotOf 81 = .ok (.iload 6, 2) := by decide +kernel
theorem dX8_lotOf_83 : decode cX8_lotOf 83 = .ok (.iload_n 3, 1) := by decide +kernel
theorem dX8_lotOf_84 : decode cX8_lotOf 84 = .ok (.iand, 1) := by decide +kernel
theorem dX8_lotOf_85 : decode cX8_lotOf 85 = .ok (.aload_n 0, 1) := by decide +kernel
theorem dX8_lotOf_86 : decode cX8_lotOf 86 = .ok (.getfield 111, 3) := by decide +kernel
theorem dX8_lotOf_89 : decode cX8_lotOf 89 = .ok (.invokevirtual 142, 3) := by decide +kernel
theorem dX8_lotOf_92 : decode cX8_lotOf 92 = .ok (.ifCond .ne 7, 3) := by decide +kernel
theorem dX8_lotOf_95 : decode cX8_lotOf 95 = .ok (.iconst 1, 1) := by decide +kernel
theorem dX8_lotOf_96 : decode cX8_lotOf 96 = .ok (.goto 4, 3) := by decide +kernel
theorem dX8_lotOf_99 : decode cX8_lotOf 99 = .ok (.iconst 0, 1) := by decide +kernel
theorem dX8_lotOf_100 : decode cX8_lotOf 100 = .ok (.iadd, 1) := by decide +kernel
theorem dX8_lotOf_101 : decode cX8_lotOf 101 = .ok (.istore 5, 2) := by decide +kernel
theorem dX8_lotOf_103 : decode cX8_lotOf 103 = .ok (.iinc 7 1, 3) := by decide +kernel
theorem dX8_lotOf_106 : decode cX8_lotOf 106 = .ok (.goto (-89), 3) := by decide +kernel
theorem dX8_lotOf_109 : decode cX8_lotOf 109 = .ok (.iload_n 2, 1) := by decide +kernel
theorem dX8_lotOf_110 : decode cX8_lotOf 110 = .ok (.ifCond .ne 8, 3) := by decide +kernel
theorem dX8_lotOf_113 : decode cX8_lotOf 113 = .ok (.iload 6, 2) := by decide +kernel
theorem dX8_lotOf_115 : decode cX8_lotOf 115 = .ok (.goto 5, 3) := by decide +kernel
theorem dX8_lotOf_118 : decode cX8_lotOf 118 = .ok (.iload 5, 2) := by decide +kernel
theorem dX8_lotOf_120 : decode cX8_lotOf 120 = .ok (.ireturn, 1) := by decide +kernel
theorem dX8_lot_0 : decode cX8_lot 0 = .ok (.iload_n 2, 1) := by decide +kernel
theorem dX8_lot_1 : decode cX8_lot 1 = .ok (.iconst 0, 1) := by decide +kernel
theorem dX8_lot_2 : decode cX8_lot 2 = .ok (.bipush 99, 2) := by decide +kernel
theorem dX8_lot_4 : decode cX8_lot 4 = .ok (.invokestatic 66, 3) := by decide +kernel
theorem dX8_lot_7 : decode cX8_lot 7 = .ok (.ifCond .eq 12, 3) := by decide +kernel
theorem dX8_lot_10 : decode cX8_lot 10 = .ok (.aload_n 0, 1) := by decide +kernel
theorem dX8_lot_11 : decode cX8_lot 11 = .ok (.iload_n 1, 1) := by decide +kernel
theorem dX8_lot_12 : decode cX8_lot 12 = .ok (.iload_n 2, 1) := by decide +kernel
theorem dX8_lot_13 : decode cX8_lot 13 = .ok (.invokevirtual 230, 3) := by decide +kernel
theorem dX8_lot_16 : decode cX8_lot 16 = .ok (.goto 5, 3) := by decide +kernel
theorem dX8_lot_19 : decode cX8_lot 19 = .ok (.bipush (-2), 2) := by decide +kernel
theorem dX8_lot_21 : decode cX8_lot 21 = .ok (.ireturn, 1) := by decide +kernel
theorem dX8_meets_0 : decode cX8_meets 0 = .ok (.aload_n 0, 1) := by decide +kernel
theorem dX8_meets_1 : decode cX8_meets 1 = .ok (.iload_n 1, 1) := by decide +kernel
theorem dX8_meets_2 : decode cX8_meets 2 = .ok (.putfield 233, 3) := by decide +kernel
theorem dX8_meets_5 : decode cX8_meets 5 = .ok (.bipush (-10), 2) := by decide +kernel
theorem dX8_meets_7 : decode cX8_meets 7 = .ok (.iload_n 1, 1) := by decide +kernel
theorem dX8_meets_8 : decode cX8_meets 8 = .ok (.isub, 1) := by decide +kernel
theorem dX8_meets_9 : decode cX8_meets 9 = .ok (.ireturn, 1) := by decide +kernel
theorem dX8_isSheet_0 : decode cX8_isSheet 0 = .ok (.iload_n 0, 1) := by decide +kernel
theorem dX8_isSheet_1 : decode cX8_isSheet 1 = .ok (.iconst 0, 1) := by decide +kernel
theorem dX8_isSheet_2 : decode cX8_isSheet 2 = .ok (.iconst 3, 1) := by decide +kernel
theorem dX8_isSheet_3 : decode cX8_isSheet 3 = .ok (.invokestatic 66, 3) := by decide +kernel
theorem dX8_isSheet_6 : decode cX8_isSheet 6 = .ok (.ireturn, 1) := by decide +kernel
theorem dX8_sheet_0 : decode cX8_sheet 0 = .ok (.iload_n 1, 1) := by decide +kernel
theorem dX8_sheet_1 : decode cX8_sheet 1 = .ok (.invokestatic 117, 3) := by decide +kernel
theorem dX8_sheet_4 : decode cX8_sheet 4 = .ok (.ifCond .eq 18, 3) := by decide +kernel
theorem dX8_sheet_7 : decode cX8_sheet 7 = .ok (.iload_n 2, 1) := by decide +kernel
theorem dX8_sheet_8 : decode cX8_sheet 8 = .ok (.iconst 0, 1) := by decide +kernel
theorem dX8_sheet_9 : decode cX8_sheet 9 = .ok (.iconst 2, 1) := by decide +kernel
theorem dX8_sheet_10 : decode cX8_sheet 10 = .ok (.invokestatic 66, 3) := by decide +kernel
theorem dX8_sheet_13 : decode cX8_sheet 13 = .ok (.ifCond .eq 9, 3) := by decide +kernel
theorem dX8_sheet_16 : decode cX8_sheet 16 = .ok (.iload_n 3, 1) := by decide +kernel
theorem dX8_sheet_17 : decode cX8_sheet 17 = .ok (.bipush 48, 2) := by decide +kernel
theorem dX8_sheet_19 : decode cX8_sheet 19 = .ok (.if_icmp .le 6, 3) := by decide +kernel
theorem dX8_sheet_22 : decode cX8_sheet 22 = .ok (.bipush (-2), 2) := by decide +kernel
theorem dX8_sheet_24 : decode cX8_sheet 24 = .ok (.ireturn, 1) := by decide +kernel
theorem dX8_sheet_25 : decode cX8_sheet 25 = .ok (.iload_n 3, 1) := by decide +kernel
theorem dX8_sheet_26 : decode cX8_sheet 26 = .ok (.ifCond .ge 9, 3) := by decide +kernel
theorem dX8_sheet_29 : decode cX8_sheet 29 = .ok (.aload_n 0, 1) := by decide +kernel
theorem dX8_sheet_30 : decode cX8_sheet 30 = .ok (.iconst 5, 1) := by decide +kernel
theorem dX8_sheet_31 : decode cX8_sheet 31 = .ok (.invokevirtual 120, 3) := by decide +kernel
theorem dX8_sheet_34 : decode cX8_sheet 34 = .ok (.ireturn, 1) := by decide +kernel
theorem dX8_sheet_35 : decode cX8_sheet 35 = .ok (.aload_n 0, 1) := by decide +kernel
theorem dX8_sheet_36 : decode cX8_sheet 36 = .ok (.getfield 43, 3) := by decide +kernel
theorem dX8_sheet_39 : decode cX8_sheet 39 = .ok (.iload_n 1, 1) := by decide +kernel
theorem dX8_sheet_40 : decode cX8_sheet 40 = .ok (.iconst 1, 1) := by decide +kernel
theorem dX8_sheet_41 : decode cX8_sheet 41 = .ok (.bastore, 1) := by decide +kernel
theorem dX8_sheet_42 : decode cX8_sheet 42 = .ok (.aload_n 0, 1) := by decide +kernel
theorem dX8_sheet_43 : decode cX8_sheet 43 = .ok (.getfield 47, 3) := by decide +kernel
theorem dX8_sheet_46 : decode cX8_sheet 46 = .ok (.iload_n 1, 1) := by decide +kernel
theorem dX8_sheet_47 : decode cX8_sheet 47 = .ok (.iload_n 2, 1) := by decide +kernel
theorem dX8_sheet_48 : decode cX8_sheet 48 = .ok (.iastore, 1) := by decide +kernel
theorem dX8_sheet_49 : decode cX8_sheet 49 = .ok (.aload_n 0, 1) := by decide +kernel
theorem dX8_sheet_50 : decode cX8_sheet 50 = .ok (.getfield 50, 3) := by decide +kernel
theorem dX8_sheet_53 : decode cX8_sheet 53 = .ok (.iload_n 1, 1) := by decide +kernel
theorem dX8_sheet_54 : decode cX8_sheet 54 = .ok (.iload_n 3, 1) := by decide +kernel
theorem dX8_sheet_55 : decode cX8_sheet 55 = .ok (.iastore, 1) := by decide +kernel
theorem dX8_sheet_56 : decode cX8_sheet 56 = .ok (.iconst 0, 1) := by decide +kernel
theorem dX8_sheet_57 : decode cX8_sheet 57 = .ok (.istore 4, 2) := by decide +kernel
theorem dX8_sheet_59 : decode cX8_sheet 59 = .ok (.iload 4, 2) := by decide +kernel
theorem dX8_sheet_61 : decode cX8_sheet 61 = .ok (.bipush 48, 2) := by decide +kernel
theorem dX8_sheet_63 : decode cX8_sheet 63 = .ok (.if_icmp .ge 22, 3) := by decide +kernel
theorem dX8_sheet_66 : decode cX8_sheet 66 = .ok (.aload_n 0, 1) := by decide +kernel
theorem dX8_sheet_67 : decode cX8_sheet 67 = .ok (.getfield 53, 3) := by decide +kernel
theorem dX8_sheet_70 : decode cX8_sheet 70 = .ok (.bipush 48, 2) := by decide +kernel
theorem dX8_sheet_72 : decode cX8_sheet 72 = .ok (.iload_n 1, 1) := by decide +kernel
theorem dX8_sheet_73 : decode cX8_sheet 73 = .ok (.imul, 1) := by decide +kernel
theorem dX8_sheet_74 : decode cX8_sheet 74 = .ok (.iload 4, 2) := by decide +kernel
theorem dX8_sheet_76 : decode cX8_sheet 76 = .ok (.iadd, 1) := by decide +kernel
theorem dX8_sheet_77 : decode cX8_sheet 77 = .ok (.iconst 0, 1) := by decide +kernel
theorem dX8_sheet_78 : decode cX8_sheet 78 = .ok (.iastore, 1) := by decide +kernel
theorem dX8_sheet_79 : decode cX8_sheet 79 = .ok (.iinc 4 1, 3) := by decide +kernel
theorem dX8_sheet_82 : decode cX8_sheet 82 = .ok (.goto (-23), 3) := by decide +kernel
theorem dX8_sheet_85 : decode cX8_sheet 85 = .ok (.iload_n 3, 1) := by decide +kernel
theorem dX8_sheet_86 : decode cX8_sheet 86 = .ok (.ireturn, 1) := by decide +kernel
theorem dX8_lose_0 : decode cX8_lose 0 = .ok (.iload_n 1, 1) := by decide +kernel
theorem dX8_lose_1 : decode cX8_lose 1 = .ok (.invokestatic 117, 3) := by decide +kernel
theorem dX8_lose_4 : decode cX8_lose 4 = .ok (.ifCond .ne 6, 3) := by decide +kernel
theorem dX8_lose_7 : decode cX8_lose 7 = .ok (.bipush (-2), 2) := by decide +kernel
theorem dX8_lose_9 : decode cX8_lose 9 = .ok (.ireturn, 1) := by decide +kernel
theorem dX8_lose_10 : decode cX8_lose 10 = .ok (.aload_n 0, 1) := by decide +kernel
theorem dX8_lose_11 : decode cX8_lose 11 = .ok (.getfield 43, 3) := by decide +kernel
theorem dX8_lose_14 : decode cX8_lose 14 = .ok (.iload_n 1, 1) := by decide +kernel
theorem dX8_lose_15 : decode cX8_lose 15 = .ok (.baload, 1) := by decide +kernel
theorem dX8_lose_16 : decode cX8_lose 16 = .ok (.ifCond .ne 9, 3) := by decide +kernel
theorem dX8_lose_19 : decode cX8_lose 19 = .ok (.aload_n 0, 1) := by decide +kernel
theorem dX8_lose_20 : decode cX8_lose 20 = .ok (.iconst 1, 1) := by decide +kernel
theorem dX8_lose_21 : decode cX8_lose 21 = .ok (.invokevirtual 120, 3) := by decide +kernel
theorem dX8_lose_24 : decode cX8_lose 24 = .ok (.ireturn, 1) := by decide +kernel
theorem dX8_lose_25 : decode cX8_lose 25 = .ok (.aload_n 0, 1) := by decide +kernel
theorem dX8_lose_26 : decode cX8_lose 26 = .ok (.getfield 43, 3) := by decide +kernel
theorem dX8_lose_29 : decode cX8_lose 29 = .ok (.iload_n 1, 1) := by decide +kernel
theorem dX8_lose_30 : decode cX8_lose 30 = .ok (.iconst 0, 1) := by decide +kernel
theorem dX8_lose_31 : decode cX8_lose 31 = .ok (.bastore, 1) := by decide +kernel
theorem dX8_lose_32 : decode cX8_lose 32 = .ok (.aload_n 0, 1) := by decide +kernel
theorem dX8_lose_33 : decode cX8_lose 33 = .ok (.getfield 50, 3) := by decide +kernel
theorem dX8_lose_36 : decode cX8_lose 36 = .ok (.iload_n 1, 1) := by decide +kernel
theorem dX8_lose_37 : decode cX8_lose 37 = .ok (.iaload, 1) := by decide +kernel
theorem dX8_lose_38 : decode cX8_lose 38 = .ok (.ireturn, 1) := by decide +kernel
theorem dX8_lacks_0 : decode cX8_lacks 0 = .ok (.aload_n 0, 1) := by decide +kernel
theorem dX8_lacks_1 : decode cX8_lacks 1 = .ok (.getfield 43, 3) := by decide +kernel
theorem dX8_lacks_4 : decode cX8_lacks 4 = .ok (.iload_n 1, 1) := by decide +kernel
theorem dX8_lacks_5 : decode cX8_lacks 5 = .ok (.baload, 1) := by decide +kernel
theorem dX8_lacks_6 : decode cX8_lacks 6 = .ok (.ifCond .ne 7, 3) := by decide +kernel
theorem dX8_lacks_9 : decode cX8_lacks 9 = .ok (.iconst 1, 1) := by decide +kernel
theorem dX8_lacks_10 : decode cX8_lacks 10 = .ok (.goto 38, 3) := by decide +kernel
theorem dX8_lacks_13 : decode cX8_lacks 13 = .ok (.aload_n 0, 1) := by decide +kernel
theorem dX8_lacks_14 : decode cX8_lacks 14 = .ok (.getfield 47, 3) := by decide +kernel
theorem dX8_lacks_17 : decode cX8_lacks 17 = .ok (.iload_n 1, 1) := by decide +kernel
theorem dX8_lacks_18 : decode cX8_lacks 18 = .ok (.iaload, 1) := by decide +kernel
theorem dX8_lacks_19 : decode cX8_lacks 19 = .ok (.iload_n 2, 1) := by decide +kernel
theorem dX8_lacks_20 : decode cX8_lacks 20 = .ok (.if_icmp .eq 7, 3) := by decide +kernel
theorem dX8_lacks_23 : decode cX8_lacks 23 = .ok (.iconst 3, 1) := by decide +kernel
theorem dX8_lacks_24 : decode cX8_lacks 24 = .ok (.goto 24, 3) := by decide +kernel
theorem dX8_lacks_27 : decode cX8_lacks 27 = .ok (.iload_n 3, 1) := by decide +kernel
theorem dX8_lacks_28 : decode cX8_lacks 28 = .ok (.iconst 0, 1) := by decide +kernel
theorem dX8_lacks_29 : decode cX8_lacks 29 = .ok (.aload_n 0, 1) := by decide +kernel
theorem dX8_lacks_30 : decode cX8_lacks 30 = .ok (.getfield 50, 3) := by decide +kernel
theorem dX8_lacks_33 : decode cX8_lacks 33 = .ok (.iload_n 1, 1) := by decide +kernel
theorem dX8_lacks_34 : decode cX8_lacks 34 = .ok (.iaload, 1) := by decide +kernel
theorem dX8_lacks_35 : decode cX8_lacks 35 = .ok (.iconst 1, 1) := by decide +kernel
theorem dX8_lacks_36 : decode cX8_lacks 36 = .ok (.isub, 1) := by decide +kernel
theorem dX8_lacks_37 : decode cX8_lacks 37 = .ok (.invokestatic 66, 3) := by decide +kernel
theorem dX8_lacks_40 : decode cX8_lacks 40 = .ok (.ifCond .eq 7, 3) := by decide +kernel
theorem dX8_lacks_43 : decode cX8_lacks 43 = .ok (.iconst 0, 1) := by decide +kernel
theorem dX8_lacks_44 : decode cX8_lacks 44 = .ok (.goto 4, 3) := by decide +kernel
theorem dX8_lacks_47 : decode cX8_lacks 47 = .ok (.iconst 2, 1) := by decide +kernel
theorem dX8_lacks_48 : decode cX8_lacks 48 = .ok (.ireturn, 1) := by decide +kernel
theorem dX8_keep_0 : decode cX8_keep 0 = .ok (.aload_n 0, 1) := by decide +kernel
theorem dX8_keep_1 : decode cX8_keep 1 = .ok (.getfield 53, 3) := by decide +kernel
theorem dX8_keep_4 : decode cX8_keep 4 = .ok (.bipush 48, 2) := by decide +kernel
theorem dX8_keep_6 : decode cX8_keep 6 = .ok (.iload_n 1, 1) := by decide +kernel
theorem dX8_keep_7 : decode cX8_keep 7 = .ok (.imul, 1) := by decide +kernel
theorem dX8_keep_8 : decode cX8_keep 8 = .ok (.iload_n 2, 1) := by decide +kernel
theorem dX8_keep_9 : decode cX8_keep 9 = .ok (.iadd, 1) := by decide +kernel
theorem dX8_keep_10 : decode cX8_keep 10 = .ok (.aload_n 0, 1) := by decide +kernel
theorem dX8_keep_11 : decode cX8_keep 11 = .ok (.getfield 47, 3) := by decide +kernel
theorem dX8_keep_14 : decode cX8_keep 14 = .ok (.iload_n 1, 1) := by decide +kernel
theorem dX8_keep_15 : decode cX8_keep 15 = .ok (.iaload, 1) := by decide +kernel
theorem dX8_keep_16 : decode cX8_keep 16 = .ok (.ifCond .ne 8, 3) := by decide +kernel
theorem dX8_keep_19 : decode cX8_keep 19 = .ok (.iload_n 3, 1) := by decide +kernel
theorem dX8_keep_20 : decode cX8_keep 20 = .ok (.i2b, 1) := by decide +kernel
theorem dX8_keep_21 : decode cX8_keep 21 = .ok (.goto 19, 3) := by decide +kernel
theorem dX8_keep_24 : decode cX8_keep 24 = .ok (.aload_n 0, 1) := by decide +kernel
theorem dX8_keep_25 : decode cX8_keep 25 = .ok (.getfield 47, 3) := by decide +kernel
theorem dX8_keep_28 : decode cX8_keep 28 = .ok (.iload_n 1, 1) := by decide +kernel
theorem dX8_keep_29 : decode cX8_keep 29 = .ok (.iaload, 1) := by decide +kernel
theorem dX8_keep_30 : decode cX8_keep 30 = .ok (.iconst 1, 1) := by decide +kernel
theorem dX8_keep_31 : decode cX8_keep 31 = .ok (.if_icmp .ne 8, 3) := by decide +kernel
theorem dX8_keep_34 : decode cX8_keep 34 = .ok (.iload_n 3, 1) := by decide +kernel
theorem dX8_keep_35 : decode cX8_keep 35 = .ok (.i2s, 1) := by decide +kernel
theorem dX8_keep_36 : decode cX8_keep 36 = .ok (.goto 4, 3) := by decide +kernel
theorem dX8_keep_39 : decode cX8_keep 39 = .ok (.iload_n 3, 1) := by decide +kernel
theorem dX8_keep_40 : decode cX8_keep 40 = .ok (.iastore, 1) := by decide +kernel
theorem dX8_keep_41 : decode cX8_keep 41 = .ok (.return_, 1) := by decide +kernel
theorem dX8_put_0 : decode cX8_put 0 = .ok (.iload_n 1, 1) := by decide +kernel
theorem dX8_put_1 : decode cX8_put 1 = .ok (.invokestatic 117, 3) := by decide +kernel
theorem dX8_put_4 : decode cX8_put 4 = .ok (.ifCond .eq 12, 3) := by decide +kernel
theorem dX8_put_7 : decode cX8_put 7 = .ok (.iload_n 2, 1) := by decide +kernel
theorem dX8_put_8 : decode cX8_put 8 = .ok (.iconst 0, 1) := by decide +kernel
theorem dX8_put_9 : decode cX8_put 9 = .ok (.iconst 2, 1) := by decide +kernel
theorem dX8_put_10 : decode cX8_put 10 = .ok (.invokestatic 66, 3) := by decide +kernel
theorem dX8_put_13 : decode cX8_put 13 = .ok (.ifCond .ne 6, 3) := by decide +kernel
theorem dX8_put_16 : decode cX8_put 16 = .ok (.bipush (-2), 2) := by decide +kernel
theorem dX8_put_18 : decode cX8_put 18 = .ok (.ireturn, 1) := by decide +kernel
theorem dX8_put_19 : decode cX8_put 19 = .ok (.aload_n 0, 1) := by decide +kernel
theorem dX8_put_20 : decode cX8_put 20 = .ok (.iload_n 1, 1) := by decide +kernel
theorem dX8_put_21 : decode cX8_put 21 = .ok (.iload_n 2, 1) := by decide +kernel
theorem dX8_put_22 : decode cX8_put 22 = .ok (.iload_n 3, 1) := by decide +kernel
theorem dX8_put_23 : decode cX8_put 23 = .ok (.invokevirtual 236, 3) := by decide +kernel
theorem dX8_put_26 : decode cX8_put 26 = .ok (.istore 5, 2) := by decide +kernel
theorem dX8_put_28 : decode cX8_put 28 = .ok (.iload 5, 2) := by decide +kernel
theorem dX8_put_30 : decode cX8_put 30 = .ok (.ifCond .le 10, 3) := by decide +kernel
theorem dX8_put_33 : decode cX8_put 33 = .ok (.aload_n 0, 1) := by decide +kernel
theorem dX8_put_34 : decode cX8_put 34 = .ok (.iload 5, 2) := by decide +kernel
theorem dX8_put_36 : decode cX8_put 36 = .ok (.invokevirtual 120, 3) := by decide +kernel
theorem dX8_put_39 : decode cX8_put 39 = .ok (.ireturn, 1) := by decide +kernel
theorem dX8_put_40 : decode cX8_put 40 = .ok (.aload_n 0, 1) := by decide +kernel
theorem dX8_put_41 : decode cX8_put 41 = .ok (.iload_n 1, 1) := by decide +kernel
theorem dX8_put_42 : decode cX8_put 42 = .ok (.iload_n 3, 1) := by decide +kernel
theorem dX8_put_43 : decode cX8_put 43 = .ok (.iload 4, 2) := by decide +kernel
theorem dX8_put_45 : decode cX8_put 45 = .ok (.invokevirtual 239, 3) := by decide +kernel
theorem dX8_put_48 : decode cX8_put 48 = .ok (.iconst 1, 1) := by decide +kernel
theorem dX8_put_49 : decode cX8_put 49 = .ok (.ireturn, 1) := by decide +kernel
theorem dX8_get_0 : decode cX8_get 0 = .ok (.iload_n 1, 1) := by decide +kernel
theorem dX8_get_1 : decode cX8_get 1 = .ok (.invokestatic 117, 3) := by decide +kernel
theorem dX8_get_4 : decode cX8_get 4 = .ok (.ifCond .eq 12, 3) := by decide +kernel
theorem dX8_get_7 : decode cX8_get 7 = .ok (.iload_n 2, 1) := by decide +kernel
theorem dX8_get_8 : decode cX8_get 8 = .ok (.iconst 0, 1) := by decide +kernel
theorem dX8_get_9 : decode cX8_get 9 = .ok (.iconst 2, 1) := by decide +kernel
theorem dX8_get_10 : decode cX8_get 10 = .ok (.invokestatic 66, 3) := by decide +kernel
theorem dX8_get_13 : decode cX8_get 13 = .ok (.ifCond .ne 6, 3) := by decide +kernel
theorem dX8_get_16 : decode cX8_get 16 = .ok (.ldc 243, 2) := by decide +kernel
theorem dX8_get_18 : decode cX8_get 18 = .ok (.ireturn, 1) := by decide +kernel
theorem dX8_get_19 : decode cX8_get 19 = .ok (.aload_n 0, 1) := by decide +kernel
theorem dX8_get_20 : decode cX8_get 20 = .ok (.iload_n 1, 1) := by decide +kernel
theorem dX8_get_21 : decode cX8_get 21 = .ok (.iload_n 2, 1) := by decide +kernel
theorem dX8_get_22 : decode cX8_get 22 = .ok (.iload_n 3, 1) := by decide +kernel
theorem dX8_get_23 : decode cX8_get 23 = .ok (.invokevirtual 236, 3) := by decide +kernel
theorem dX8_get_26 : decode cX8_get 26 = .ok (.istore 4, 2) := by decide +kernel
theorem dX8_get_28 : decode cX8_get 28 = .ok (.iload 4, 2) := by decide +kernel
theorem dX8_get_30 : decode cX8_get 30 = .ok (.ifCond .le 12, 3) := by decide +kernel
theorem dX8_get_33 : decode cX8_get 33 = .ok (.aload_n 0, 1) := by decide +kernel
theorem dX8_get_34 : decode cX8_get 34 = .ok (.iload 4, 2) := by decide +kernel
theorem dX8_get_36 : decode cX8_get 36 = .ok (.putfield 233, 3) := by decide +kernel
theorem dX8_get_39 : decode cX8_get 39 = .ok (.ldc 243, 2) := by decide +kernel
theorem dX8_get_41 : decode cX8_get 41 = .ok (.ireturn, 1) := by decide +kernel
theorem dX8_get_42 : decode cX8_get 42 = .ok (.aload_n 0, 1) := by decide +kernel
theorem dX8_get_43 : decode cX8_get 43 = .ok (.getfield 53, 3) := by decide +kernel
theorem dX8_get_46 : decode cX8_get 46 = .ok (.bipush 48, 2) := by decide +kernel
theorem dX8_get_48 : decode cX8_get 48 = .ok (.iload_n 1, 1) := by decide +kernel
theorem dX8_get_49 : decode cX8_get 49 = .ok (.imul, 1) := by decide +kernel
theorem dX8_get_50 : decode cX8_get 50 = .ok (.iload_n 3, 1) := by decide +kernel
theorem dX8_get_51 : decode cX8_get 51 = .ok (.iadd, 1) := by decide +kernel
theorem dX8_get_52 : decode cX8_get 52 = .ok (.iaload, 1) := by decide +kernel
theorem dX8_get_53 : decode cX8_get 53 = .ok (.ireturn, 1) := by decide +kernel
theorem dX8_copy_0 : decode cX8_copy 0 = .ok (.iload_n 1, 1) := by decide +kernel
theorem dX8_copy_1 : decode cX8_copy 1 = .ok (.invokestatic 117, 3) := by decide +kernel
theorem dX8_copy_4 : decode cX8_copy 4 = .ok (.ifCond .eq 10, 3) := by decide +kernel
theorem dX8_copy_7 : decode cX8_copy 7 = .ok (.iload_n 3, 1) := by decide +kernel
theorem dX8_copy_8 : decode cX8_copy 8 = .ok (.invokestatic 117, 3) := by decide +kernel
theorem dX8_copy_11 : decode cX8_copy 11 = .ok (.ifCond .ne 6, 3) := by decide +kernel
theorem dX8_copy_14 : decode cX8_copy 14 = .ok (.bipush (-2), 2) := by decide +kernel
theorem dX8_copy_16 : decode cX8_copy 16 = .ok (.ireturn, 1) := by decide +kernel
theorem dX8_copy_17 : decode cX8_copy 17 = .ok (.aload_n 0, 1) := by decide +kernel
theorem dX8_copy_18 : decode cX8_copy 18 = .ok (.getfield 43, 3) := by decide +kernel
theorem dX8_copy_21 : decode cX8_copy 21 = .ok (.iload_n 1, 1) := by decide +kernel
theorem dX8_copy_22 : decode cX8_copy 22 = .ok (.baload, 1) := by decide +kernel
theorem dX8_copy_23 : decode cX8_copy 23 = .ok (.ifCond .eq 12, 3) := by decide +kernel
theorem dX8_copy_26 : decode cX8_copy 26 = .ok (.aload_n 0, 1) := by decide +kernel
theorem dX8_copy_27 : decode cX8_copy 27 = .ok (.getfield 43, 3) := by decide +kernel
theorem dX8_copy_30 : decode cX8_copy 30 = .ok (.iload_n 3, 1) := by decide +kernel
theorem dX8_copy_31 : decode cX8_copy 31 = .ok (.baload, 1) := by decide +kernel
theorem dX8_copy_32 : decode cX8_copy 32 = .ok (.ifCond .ne 9, 3) := by decide +kernel
theorem dX8_copy_35 : decode cX8_copy 35 = .ok (.aload_n 0, 1) := by decide +kernel
theorem dX8_copy_36 : decode cX8_copy 36 = .ok (.iconst 1, 1) := by decide +kernel
theorem dX8_copy_37 : decode cX8_copy 37 = .ok (.invokevirtual 120, 3) := by decide +kernel
theorem dX8_copy_40 : decode cX8_copy 40 = .ok (.ireturn, 1) := by decide +kernel
theorem dX8_copy_41 : decode cX8_copy 41 = .ok (.aload_n 0, 1) := by decide +kernel
theorem dX8_copy_42 : decode cX8_copy 42 = .ok (.getfield 47, 3) := by decide +kernel
theorem dX8_copy_45 : decode cX8_copy 45 = .ok (.iload_n 1, 1) := by decide +kernel
theorem dX8_copy_46 : decode cX8_copy 46 = .ok (.iaload, 1) := by decide +kernel
theorem dX8_copy_47 : decode cX8_copy 47 = .ok (.aload_n 0, 1) := by decide +kernel
theorem dX8_copy_48 : decode cX8_copy 48 = .ok (.getfield 47, 3) := by decide +kernel
theorem dX8_copy_51 : decode cX8_copy 51 = .ok (.iload_n 3, 1) := by decide +kernel
theorem dX8_copy_52 : decode cX8_copy 52 = .ok (.iaload, 1) := by decide +kernel
theorem dX8_copy_53 : decode cX8_copy 53 = .ok (.if_icmp .eq 9, 3) := by decide +kernel
theorem dX8_copy_56 : decode cX8_copy 56 = .ok (.aload_n 0, 1) := by decide +kernel
theorem dX8_copy_57 : decode cX8_copy 57 = .ok (.iconst 4, 1) := by decide +kernel
theorem dX8_copy_58 : decode cX8_copy 58 = .ok (.invokevirtual 120, 3) := by decide +kernel
theorem dX8_copy_61 : decode cX8_copy 61 = .ok (.ireturn, 1) := by decide +kernel
theorem dX8_copy_62 : decode cX8_copy 62 = .ok (.iload_n 2, 1) := by decide +kernel
theorem dX8_copy_63 : decode cX8_copy 63 = .ok (.ifCond .lt 48, 3) := by decide +kernel
theorem dX8_copy_66 : decode cX8_copy 66 = .ok (.iload 4, 2) := by decide +kernel
theorem dX8_copy_68 : decode cX8_copy 68 = .ok (.ifCond .lt 43, 3) := by decide +kernel
theorem dX8_copy_71 : decode cX8_copy 71 = .ok (.iload 5, 2) := by decide +kernel
theorem dX8_copy_73 : decode cX8_copy 73 = .ok (.ifCond .lt 38, 3) := by decide +kernel
theorem dX8_copy_76 : decode cX8_copy 76 = .ok (.iload_n 2, 1) := by decide +kernel
theorem dX8_copy_77 : decode cX8_copy 77 = .ok (.i2l, 1) := by decide +kernel
theorem dX8_copy_78 : decode cX8_copy 78 = .ok (.iload 5, 2) := by decide +kernel
theorem dX8_copy_80 : decode cX8_copy 80 = .ok (.i2l, 1) := by decide +kernel
theorem dX8_copy_81 : decode cX8_copy 81 = .ok (.ladd, 1) := by decide +kernel
theorem dX8_copy_82 : decode cX8_copy 82 = .ok (.aload_n 0, 1) := by decide +kernel
theorem dX8_copy_83 : decode cX8_copy 83 = .ok (.getfield 50, 3) := by decide +kernel
theorem dX8_copy_86 : decode cX8_copy 86 = .ok (.iload_n 1, 1) := by decide +kernel
theorem dX8_copy_87 : decode cX8_copy 87 = .ok (.iaload, 1) := by decide +kernel
theorem dX8_copy_88 : decode cX8_copy 88 = .ok (.i2l, 1) := by decide +kernel
theorem dX8_copy_89 : decode cX8_copy 89 = .ok (.lcmp, 1) := by decide +kernel
theorem dX8_copy_90 : decode cX8_copy 90 = .ok (.ifCond .gt 21, 3) := by decide +kernel
theorem dX8_copy_93 : decode cX8_copy 93 = .ok (.iload 4, 2) := by decide +kernel
theorem dX8_copy_95 : decode cX8_copy 95 = .ok (.i2l, 1) := by decide +kernel
theorem dX8_copy_96 : decode cX8_copy 96 = .ok (.iload 5, 2) := by decide +kernel
theorem dX8_copy_98 : decode cX8_copy 98 = .ok (.i2l, 1) := by decide +kernel
theorem dX8_copy_99 : decode cX8_copy 99 = .ok (.ladd, 1) := by decide +kernel
theorem dX8_copy_100 : decode cX8_copy 100 = .ok (.aload_n 0, 1) := by decide +kernel
theorem dX8_copy_101 : decode cX8_copy 101 = .ok (.getfield 50, 3) := by decide +kernel
theorem dX8_copy_104 : decode cX8_copy 104 = .ok (.iload_n 3, 1) := by decide +kernel
theorem dX8_copy_105 : decode cX8_copy 105 = .ok (.iaload, 1) := by decide +kernel
theorem dX8_copy_106 : decode cX8_copy 106 = .ok (.i2l, 1) := by decide +kernel
theorem dX8_copy_107 : decode cX8_copy 107 = .ok (.lcmp, 1) := by decide +kernel
theorem dX8_copy_108 : decode cX8_copy 108 = .ok (.ifCond .le 9, 3) := by decide +kernel
theorem dX8_copy_111 : decode cX8_copy 111 = .ok (.aload_n 0, 1) := by decide +kernel
theorem dX8_copy_112 : decode cX8_copy 112 = .ok (.iconst 2, 1) := by decide +kernel
theorem dX8_copy_113 : decode cX8_copy 113 = .ok (.invokevirtual 120, 3) := by decide +kernel
theorem dX8_copy_116 : decode cX8_copy 116 = .ok (.ireturn, 1) := by decide +kernel
theorem dX8_copy_117 : decode cX8_copy 117 = .ok (.iconst 0, 1) := by decide +kernel
theorem dX8_copy_118 : decode cX8_copy 118 = .ok (.istore 6, 2) := by decide +kernel
theorem dX8_copy_120 : decode cX8_copy 120 = .ok (.iload 6, 2) := by decide +kernel
theorem dX8_copy_122 : decode cX8_copy 122 = .ok (.iload 5, 2) := by decide +kernel
theorem dX8_copy_124 : decode cX8_copy 124 = .ok (.if_icmp .ge 30, 3) := by decide +kernel
theorem dX8_copy_127 : decode cX8_copy 127 = .ok (.aload_n 0, 1) := by decide +kernel
theorem dX8_copy_128 : decode cX8_copy 128 = .ok (.getfield 56, 3) := by decide +kernel
theorem dX8_copy_131 : decode cX8_copy 131 = .ok (.iload 6, 2) := by decide +kernel
theorem dX8_copy_133 : decode cX8_copy 133 = .ok (.aload_n 0, 1) := by decide +kernel
theorem dX8_copy_134 : decode cX8_copy 134 = .ok (.getfield 53, 3) := by decide +kernel
theorem dX8_copy_137 : decode cX8_copy 137 = .ok (.bipush 48, 2) := by decide +kernel
theorem dX8_copy_139 : decode cX8_copy 139 = .ok (.iload_n 1, 1) := by decide +kernel
theorem dX8_copy_140 : decode cX8_copy 140 = .ok (.imul, 1) := by decide +kernel
theorem dX8_copy_141 : decode cX8_copy 141 = .ok (.iload_n 2, 1) := by decide +kernel
theorem dX8_copy_142 : decode cX8_copy 142 = .ok (.iadd, 1) := by decide +kernel
theorem dX8_copy_143 : decode cX8_copy 143 = .ok (.iload 6, 2) := by decide +kernel
theorem dX8_copy_145 : decode cX8_copy 145 = .ok (.iadd, 1) := by decide +kernel
theorem dX8_copy_146 : decode cX8_copy 146 = .ok (.iaload, 1) := by decide +kernel
theorem dX8_copy_147 : decode cX8_copy 147 = .ok (.iastore, 1) := by decide +kernel
theorem dX8_copy_148 : decode cX8_copy 148 = .ok (.iinc 6 1, 3) := by decide +kernel
theorem dX8_copy_151 : decode cX8_copy 151 = .ok (.goto (-31), 3) := by decide +kernel
theorem dX8_copy_154 : decode cX8_copy 154 = .ok (.iconst 0, 1) := by decide +kernel
theorem dX8_copy_155 : decode cX8_copy 155 = .ok (.istore 6, 2) := by decide +kernel
theorem dX8_copy_157 : decode cX8_copy 157 = .ok (.iload 6, 2) := by decide +kernel
theorem dX8_copy_159 : decode cX8_copy 159 = .ok (.iload 5, 2) := by decide +kernel
theorem dX8_copy_161 : decode cX8_copy 161 = .ok (.if_icmp .ge 31, 3) := by decide +kernel
theorem dX8_copy_164 : decode cX8_copy 164 = .ok (.aload_n 0, 1) := by decide +kernel
theorem dX8_copy_165 : decode cX8_copy 165 = .ok (.getfield 53, 3) := by decide +kernel
theorem dX8_copy_168 : decode cX8_copy 168 = .ok (.bipush 48, 2) := by decide +kernel
theorem dX8_copy_170 : decode cX8_copy 170 = .ok (.iload_n 3, 1) := by decide +kernel
theorem dX8_copy_171 : decode cX8_copy 171 = .ok (.imul, 1) := by decide +kernel
theorem dX8_copy_172 : decode cX8_copy 172 = .ok (.iload 4, 2) := by decide +kernel
theorem dX8_copy_174 : decode cX8_copy 174 = .ok (.iadd, 1) := by decide +kernel
theorem dX8_copy_175 : decode cX8_copy 175 = .ok (.iload 6, 2) := by decide +kernel
theorem dX8_copy_177 : decode cX8_copy 177 = .ok (.iadd, 1) := by decide +kernel
theorem dX8_copy_178 : decode cX8_copy 178 = .ok (.aload_n 0, 1) := by decide +kernel
theorem dX8_copy_179 : decode cX8_copy 179 = .ok (.getfield 56, 3) := by decide +kernel
theorem dX8_copy_182 : decode cX8_copy 182 = .ok (.iload 6, 2) := by decide +kernel
theorem dX8_copy_184 : decode cX8_copy 184 = .ok (.iaload, 1) := by decide +kernel
theorem dX8_copy_185 : decode cX8_copy 185 = .ok (.iastore, 1) := by decide +kernel
theorem dX8_copy_186 : decode cX8_copy 186 = .ok (.iinc 6 1, 3) := by decide +kernel
theorem dX8_copy_189 : decode cX8_copy 189 = .ok (.goto (-32), 3) := by decide +kernel
theorem dX8_copy_192 : decode cX8_copy 192 = .ok (.iconst 1, 1) := by decide +kernel
theorem dX8_copy_193 : decode cX8_copy 193 = .ok (.ireturn, 1) := by decide +kernel
theorem dX8_write_0 : decode cX8_write 0 = .ok (.iload_n 1, 1) := by decide +kernel
theorem dX8_write_1 : decode cX8_write 1 = .ok (.invokestatic 117, 3) := by decide +kernel
theorem dX8_write_4 : decode cX8_write 4 = .ok (.ifCond .ne 6, 3) := by decide +kernel
theorem dX8_write_7 : decode cX8_write 7 = .ok (.bipush (-2), 2) := by decide +kernel
theorem dX8_write_9 : decode cX8_write 9 = .ok (.ireturn, 1) := by decide +kernel
theorem dX8_write_10 : decode cX8_write 10 = .ok (.aload_n 0, 1) := by decide +kernel
theorem dX8_write_11 : decode cX8_write 11 = .ok (.getfield 43, 3) := by decide +kernel
theorem dX8_write_14 : decode cX8_write 14 = .ok (.iload_n 1, 1) := by decide +kernel
theorem dX8_write_15 : decode cX8_write 15 = .ok (.baload, 1) := by decide +kernel
theorem dX8_write_16 : decode cX8_write 16 = .ok (.ifCond .ne 9, 3) := by decide +kernel
theorem dX8_write_19 : decode cX8_write 19 = .ok (.aload_n 0, 1) := by decide +kernel
theorem dX8_write_20 : decode cX8_write 20 = .ok (.iconst 1, 1) := by decide +kernel
theorem dX8_write_21 : decode cX8_write 21 = .ok (.invokevirtual 120, 3) := by decide +kernel
theorem dX8_write_24 : decode cX8_write 24 = .ok (.ireturn, 1) := by decide +kernel
theorem dX8_write_25 : decode cX8_write 25 = .ok (.aload_n 0, 1) := by decide +kernel
theorem dX8_write_26 : decode cX8_write 26 = .ok (.invokevirtual 139, 3) := by decide +kernel
theorem dX8_write_29 : decode cX8_write 29 = .ok (.istore_n 2, 1) := by decide +kernel
theorem dX8_write_30 : decode cX8_write 30 = .ok (.iconst 0, 1) := by decide +kernel
theorem dX8_write_31 : decode cX8_write 31 = .ok (.istore_n 3, 1) := by decide +kernel
theorem dX8_write_32 : decode cX8_write 32 = .ok (.iconst 0, 1) := by decide +kernel
theorem dX8_write_33 : decode cX8_write 33 = .ok (.istore 4, 2) := by decide +kernel
theorem dX8_write_35 : decode cX8_write 35 = .ok (.iload 4, 2) := by decide +kernel
theorem dX8_write_37 : decode cX8_write 37 = .ok (.iload_n 2, 1) := by decide +kernel
theorem dX8_write_38 : decode cX8_write 38 = .ok (.if_icmp .gt 43, 3) := by decide +kernel
theorem dX8_write_41 : decode cX8_write 41 = .ok (.iload_n 3, 1) := by decide +kernel
theorem dX8_write_42 : decode cX8_write 42 = .ok (.aload_n 0, 1) := by decide +kernel
theorem dX8_write_43 : decode cX8_write 43 = .ok (.getfield 50, 3) := by decide +kernel
theorem dX8_write_46 : decode cX8_write 46 = .ok (.iload_n 1, 1) := by decide +kernel
theorem dX8_write_47 : decode cX8_write 47 = .ok (.iaload, 1) := by decide +kernel
theorem dX8_write_48 : decode cX8_write 48 = .ok (.if_icmp .ge 33, 3) := by decide +kernel
theorem dX8_write_51 : decode cX8_write 51 = .ok (.aload_n 0, 1) := by decide +kernel
theorem dX8_write_52 : decode cX8_write 52 = .ok (.iload 4, 2) := by decide +kernel
theorem dX8_write_54 : decode cX8_write 54 = .ok (.aload_n 0, 1) := by decide +kernel
theorem dX8_write_55 : decode cX8_write 55 = .ok (.getfield 111, 3) := by decide +kernel
theorem dX8_write_58 : decode cX8_write 58 = .ok (.invokevirtual 142, 3) := by decide +kernel
theorem dX8_write_61 : decode cX8_write 61 = .ok (.ifCond .ne 14, 3) := by decide +kernel
theorem dX8_write_64 : decode cX8_write 64 = .ok (.aload_n 0, 1) := by decide +kernel
theorem dX8_write_65 : decode cX8_write 65 = .ok (.iload_n 1, 1) := by decide +kernel
theorem dX8_write_66 : decode cX8_write 66 = .ok (.iload_n 3, 1) := by decide +kernel
theorem dX8_write_67 : decode cX8_write 67 = .ok (.iload 4, 2) := by decide +kernel
theorem dX8_write_69 : decode cX8_write 69 = .ok (.invokevirtual 239, 3) := by decide +kernel
theorem dX8_write_72 : decode cX8_write 72 = .ok (.iinc 3 1, 3) := by decide +kernel
theorem dX8_write_75 : decode cX8_write 75 = .ok (.iinc 4 1, 3) := by decide +kernel
theorem dX8_write_78 : decode cX8_write 78 = .ok (.goto (-43), 3) := by decide +kernel
theorem dX8_write_81 : decode cX8_write 81 = .ok (.iload_n 3, 1) := by decide +kernel
theorem dX8_write_82 : decode cX8_write 82 = .ok (.ireturn, 1) := by decide +kernel
theorem dX8_readsMany_0 : decode cX8_readsMany 0 = .ok (.aload_n 0, 1) := by decide +kernel
theorem dX8_readsMany_1 : decode cX8_readsMany 1 = .ok (.invokevirtual 102, 3) := by decide +kernel
theorem dX8_readsMany_4 : decode cX8_readsMany 4 = .ok (.iload_n 1, 1) := by decide +kernel
theorem dX8_readsMany_5 : decode cX8_readsMany 5 = .ok (.ifCond .ne 10, 3) := by decide +kernel
theorem dX8_readsMany_8 : decode cX8_readsMany 8 = .ok (.aload_n 0, 1) := by decide +kernel
theorem dX8_readsMany_9 : decode cX8_readsMany 9 = .ok (.getfield 86, 3) := by decide +kernel
theorem dX8_readsMany_12 : decode cX8_readsMany 12 = .ok (.goto 11, 3) := by decide +kernel
theorem dX8_readsMany_15 : decode cX8_readsMany 15 = .ok (.aload_n 0, 1) := by decide +kernel
theorem dX8_readsMany_16 : decode cX8_readsMany 16 = .ok (.getfield 19, 3) := by decide +kernel
theorem dX8_readsMany_19 : decode cX8_readsMany 19 = .ok (.iload_n 1, 1) := by decide +kernel
theorem dX8_readsMany_20 : decode cX8_readsMany 20 = .ok (.iconst 1, 1) := by decide +kernel
theorem dX8_readsMany_21 : decode cX8_readsMany 21 = .ok (.isub, 1) := by decide +kernel
theorem dX8_readsMany_22 : decode cX8_readsMany 22 = .ok (.iaload, 1) := by decide +kernel
theorem dX8_readsMany_23 : decode cX8_readsMany 23 = .ok (.ireturn, 1) := by decide +kernel
theorem dX8_count_0 : decode cX8_count 0 = .ok (.iload_n 1, 1) := by decide +kernel
theorem dX8_count_1 : decode cX8_count 1 = .ok (.tableswitch 81 0 8 #[51, 51, 51, 57, 57, 57, 66, 71, 76], 51) := by decide +kernel
theorem dX8_count_52 : decode cX8_count 52 = .ok (.aload_n 0, 1) := by decide +kernel
theorem dX8_count_53 : decode cX8_count 53 = .ok (.iload_n 1, 1) := by decide +kernel
theorem dX8_count_54 : decode cX8_count 54 = .ok (.invokevirtual 244, 3) := by decide +kernel
theorem dX8_count_57 : decode cX8_count 57 = .ok (.ireturn, 1) := by decide +kernel
theorem dX8_count_58 : decode cX8_count 58 = .ok (.aload_n 0, 1) := by decide +kernel
theorem dX8_count_59 : decode cX8_count 59 = .ok (.getfield 7, 3) := by decide +kernel
theorem dX8_count_62 : decode cX8_count 62 = .ok (.iload_n 1, 1) := by decide +kernel
theorem dX8_count_63 : decode cX8_count 63 = .ok (.iconst 3, 1) := by decide +kernel
theorem dX8_count_64 : decode cX8_count 64 = .ok (.isub, 1) := by decide +kernel
theorem dX8_count_65 : decode cX8_count 65 = .ok (.iaload, 1) := by decide +kernel
theorem dX8_count_66 : decode cX8_count 66 = .ok (.ireturn, 1) := by decide +kernel
theorem dX8_count_67 : decode cX8_count 67 = .ok (.aload_n 0, 1) := by decide +kernel
theorem dX8_count_68 : decode cX8_count 68 = .ok (.getfield 223, 3) := by decide +kernel
theorem dX8_count_71 : decode cX8_count 71 = .ok (.ireturn, 1) := by decide +kernel
theorem dX8_count_72 : decode cX8_count 72 = .ok (.aload_n 0, 1) := by decide +kernel
theorem dX8_count_73 : decode cX8_count 73 = .ok (.getfield 59, 3) := by decide +kernel
theorem dX8_count_76 : decode cX8_count 76 = .ok (.ireturn, 1) := by decide +kernel
theorem dX8_count_77 : decode cX8_count 77 = .ok (.aload_n 0, 1) := by decide +kernel
theorem dX8_count_78 : decode cX8_count 78 = .ok (.getfield 233, 3) := by decide +kernel
theorem dX8_count_81 : decode cX8_count 81 = .ok (.ireturn, 1) := by decide +kernel
theorem dX8_count_82 : decode cX8_count 82 = .ok (.bipush (-2), 2) := by decide +kernel
theorem dX8_count_84 : decode cX8_count 84 = .ok (.ireturn, 1) := by decide +kernel
theorem dX8_digest_0 : decode cX8_digest 0 = .ok (.ldc2_w 247, 3) := by decide +kernel
theorem dX8_digest_3 : decode cX8_digest 3 = .ok (.lstore_n 1, 1) := by decide +kernel
theorem dX8_digest_4 : decode cX8_digest 4 = .ok (.iconst 0, 1) := by decide +kernel
theorem dX8_digest_5 : decode cX8_digest 5 = .ok (.istore_n 3, 1) := by decide +kernel
theorem dX8_digest_6 : decode cX8_digest 6 = .ok (.iload_n 3, 1) := by decide +kernel
theorem dX8_digest_7 : decode cX8_digest 7 = .ok (.bipush 8, 2) := by decide +kernel
theorem dX8_digest_9 : decode cX8_digest 9 = .ok (.if_icmp .ge 22, 3) := by decide +kernel
theorem dX8_digest_12 : decode cX8_digest 12 = .ok (.ldc2_w 249, 3) := by decide +kernel
theorem dX8_digest_15 : decode cX8_digest 15 = .ok (.lload_n 1, 1) := by decide +kernel
theorem dX8_digest_16 : decode cX8_digest 16 = .ok (.lmul, 1) := by decide +kernel
theorem dX8_digest_17 : decode cX8_digest 17 = .ok (.aload_n 0, 1) := by decide +kernel
theorem dX8_digest_18 : decode cX8_digest 18 = .ok (.iload_n 3, 1) := by decide +kernel
theorem dX8_digest_19 : decode cX8_digest 19 = .ok (.invokevirtual 251, 3) := by decide +kernel
theorem dX8_digest_22 : decode cX8_digest 22 = .ok (.i2l, 1) := by decide +kernel
theorem dX8_digest_23 : decode cX8_digest 23 = .ok (.ladd, 1) := by decide +kernel
theorem dX8_digest_24 : decode cX8_digest 24 = .ok (.lstore_n 1, 1) := by decide +kernel
theorem dX8_digest_25 : decode cX8_digest 25 = .ok (.iinc 3 1, 3) := by decide +kernel
theorem dX8_digest_28 : decode cX8_digest 28 = .ok (.goto (-22), 3) := by decide +kernel
theorem dX8_digest_31 : decode cX8_digest 31 = .ok (.iconst 0, 1) := by decide +kernel
theorem dX8_digest_32 : decode cX8_digest 32 = .ok (.istore_n 3, 1) := by decide +kernel
theorem dX8_digest_33 : decode cX8_digest 33 = .ok (.iload_n 3, 1) := by decide +kernel
theorem dX8_digest_34 : decode cX8_digest 34 = .ok (.iconst 3, 1) := by decide +kernel
theorem dX8_digest_35 : decode cX8_digest 35 = .ok (.if_icmp .ge 22, 3) := by decide +kernel
theorem dX8_digest_38 : decode cX8_digest 38 = .ok (.ldc2_w 249, 3) := by decide +kernel
theorem dX8_digest_41 : decode cX8_digest 41 = .ok (.lload_n 1, 1) := by decide +kernel
theorem dX8_digest_42 : decode cX8_digest 42 = .ok (.lmul, 1) := by decide +kernel
theorem dX8_digest_43 : decode cX8_digest 43 = .ok (.aload_n 0, 1) := by decide +kernel
theorem dX8_digest_44 : decode cX8_digest 44 = .ok (.iload_n 3, 1) := by decide +kernel
theorem dX8_digest_45 : decode cX8_digest 45 = .ok (.invokevirtual 99, 3) := by decide +kernel
theorem dX8_digest_48 : decode cX8_digest 48 = .ok (.i2l, 1) := by decide +kernel
theorem dX8_digest_49 : decode cX8_digest 49 = .ok (.ladd, 1) := by decide +kernel
theorem dX8_digest_50 : decode cX8_digest 50 = .ok (.lstore_n 1, 1) := by decide +kernel
theorem dX8_digest_51 : decode cX8_digest 51 = .ok (.iinc 3 1, 3) := by decide +kernel
theorem dX8_digest_54 : decode cX8_digest 54 = .ok (.goto (-21), 3) := by decide +kernel
theorem dX8_digest_57 : decode cX8_digest 57 = .ok (.iconst 0, 1) := by decide +kernel
theorem dX8_digest_58 : decode cX8_digest 58 = .ok (.istore_n 3, 1) := by decide +kernel
theorem dX8_digest_59 : decode cX8_digest 59 = .ok (.iload_n 3, 1) := by decide +kernel
theorem dX8_digest_60 : decode cX8_digest 60 = .ok (.aload_n 0, 1) := by decide +kernel
theorem dX8_digest_61 : decode cX8_digest 61 = .ok (.getfield 86, 3) := by decide +kernel
theorem dX8_digest_64 : decode cX8_digest 64 = .ok (.if_icmp .ge 58, 3) := by decide +kernel
theorem dX8_digest_67 : decode cX8_digest 67 = .ok (.iconst 0, 1) := by decide +kernel
theorem dX8_digest_68 : decode cX8_digest 68 = .ok (.istore 4, 2) := by decide +kernel
theorem dX8_digest_70 : decode cX8_digest 70 = .ok (.iload 4, 2) := by decide +kernel
theorem dX8_digest_72 : decode cX8_digest 72 = .ok (.bipush 6, 2) := by decide +kernel
theorem dX8_digest_74 : decode cX8_digest 74 = .ok (.if_icmp .ge 29, 3) := by decide +kernel
theorem dX8_digest_77 : decode cX8_digest 77 = .ok (.ldc2_w 249, 3) := by decide +kernel
theorem dX8_digest_80 : decode cX8_digest 80 = .ok (.lload_n 1, 1) := by decide +kernel
theorem dX8_digest_81 : decode cX8_digest 81 = .ok (.lmul, 1) := by decide +kernel
theorem dX8_digest_82 : decode cX8_digest 82 = .ok (.aload_n 0, 1) := by decide +kernel
theorem dX8_digest_83 : decode cX8_digest 83 = .ok (.getfield 16, 3) := by decide +kernel
theorem dX8_digest_86 : decode cX8_digest 86 = .ok (.bipush 6, 2) := by decide +kernel
theorem dX8_digest_88 : decode cX8_digest 88 = .ok (.iload_n 3, 1) := by decide +kernel
theorem dX8_digest_89 : decode cX8_digest 89 = .ok (.imul, 1) := by decide +kernel
theorem dX8_digest_90 : decode cX8_digest 90 = .ok (.iload 4, 2) := by decide +kernel
theorem dX8_digest_92 : decode cX8_digest 92 = .ok (.iadd, 1) := by decide +kernel
theorem dX8_digest_93 : decode cX8_digest 93 = .ok (.iaload, 1) := by decide +kernel
theorem dX8_digest_94 : decode cX8_digest 94 = .ok (.i2l, 1) := by decide +kernel
theorem dX8_digest_95 : decode cX8_digest 95 = .ok (.ladd, 1) := by decide +kernel
theorem dX8_digest_96 : decode cX8_digest 96 = .ok (.lstore_n 1, 1) := by decide +kernel
theorem dX8_digest_97 : decode cX8_digest 97 = .ok (.iinc 4 1, 3) := by decide +kernel
theorem dX8_digest_100 : decode cX8_digest 100 = .ok (.goto (-30), 3) := by decide +kernel
theorem dX8_digest_103 : decode cX8_digest 103 = .ok (.ldc2_w 249, 3) := by decide +kernel
theorem dX8_digest_106 : decode cX8_digest 106 = .ok (.lload_n 1, 1) := by decide +kernel
theorem dX8_digest_107 : decode cX8_digest 107 = .ok (.lmul, 1) := by decide +kernel
theorem dX8_digest_108 : decode cX8_digest 108 = .ok (.aload_n 0, 1) := by decide +kernel
theorem dX8_digest_109 : decode cX8_digest 109 = .ok (.iload_n 3, 1) := by decide +kernel
theorem dX8_digest_110 : decode cX8_digest 110 = .ok (.invokevirtual 178, 3) := by decide +kernel
theorem dX8_digest_113 : decode cX8_digest 113 = .ok (.i2l, 1) := by decide +kernel
theorem dX8_digest_114 : decode cX8_digest 114 = .ok (.ladd, 1) := by decide +kernel
theorem dX8_digest_115 : decode cX8_digest 115 = .ok (.lstore_n 1, 1) := by decide +kernel
theorem dX8_digest_116 : decode cX8_digest 116 = .ok (.iinc 3 1, 3) := by decide +kernel
theorem dX8_digest_119 : decode cX8_digest 119 = .ok (.goto (-60), 3) := by decide +kernel
theorem dX8_digest_122 : decode cX8_digest 122 = .ok (.iconst (-1), 1) := by decide +kernel
theorem dX8_digest_123 : decode cX8_digest 123 = .ok (.istore_n 3, 1) := by decide +kernel
theorem dX8_digest_124 : decode cX8_digest 124 = .ok (.iload_n 3, 1) := by decide +kernel
theorem dX8_digest_125 : decode cX8_digest 125 = .ok (.iconst 2, 1) := by decide +kernel
theorem dX8_digest_126 : decode cX8_digest 126 = .ok (.if_icmp .ge 22, 3) := by decide +kernel
theorem dX8_digest_129 : decode cX8_digest 129 = .ok (.ldc2_w 249, 3) := by decide +kernel
theorem dX8_digest_132 : decode cX8_digest 132 = .ok (.lload_n 1, 1) := by decide +kernel
theorem dX8_digest_133 : decode cX8_digest 133 = .ok (.lmul, 1) := by decide +kernel
theorem dX8_digest_134 : decode cX8_digest 134 = .ok (.aload_n 0, 1) := by decide +kernel
theorem dX8_digest_135 : decode cX8_digest 135 = .ok (.iload_n 3, 1) := by decide +kernel
theorem dX8_digest_136 : decode cX8_digest 136 = .ok (.invokevirtual 151, 3) := by decide +kernel
theorem dX8_digest_139 : decode cX8_digest 139 = .ok (.i2l, 1) := by decide +kernel
theorem dX8_digest_140 : decode cX8_digest 140 = .ok (.ladd, 1) := by decide +kernel
theorem dX8_digest_141 : decode cX8_digest 141 = .ok (.lstore_n 1, 1) := by decide +kernel
theorem dX8_digest_142 : decode cX8_digest 142 = .ok (.iinc 3 1, 3) := by decide +kernel
theorem dX8_digest_145 : decode cX8_digest 145 = .ok (.goto (-21), 3) := by decide +kernel
theorem dX8_digest_148 : decode cX8_digest 148 = .ok (.iconst 0, 1) := by decide +kernel
theorem dX8_digest_149 : decode cX8_digest 149 = .ok (.istore_n 3, 1) := by decide +kernel
theorem dX8_digest_150 : decode cX8_digest 150 = .ok (.iload_n 3, 1) := by decide +kernel
theorem dX8_digest_151 : decode cX8_digest 151 = .ok (.iconst 2, 1) := by decide +kernel
theorem dX8_digest_152 : decode cX8_digest 152 = .ok (.if_icmp .ge 22, 3) := by decide +kernel
theorem dX8_digest_155 : decode cX8_digest 155 = .ok (.ldc2_w 249, 3) := by decide +kernel
theorem dX8_digest_158 : decode cX8_digest 158 = .ok (.lload_n 1, 1) := by decide +kernel
theorem dX8_digest_159 : decode cX8_digest 159 = .ok (.lmul, 1) := by decide +kernel
theorem dX8_digest_160 : decode cX8_digest 160 = .ok (.aload_n 0, 1) := by decide +kernel
theorem dX8_digest_161 : decode cX8_digest 161 = .ok (.iload_n 3, 1) := by decide +kernel
theorem dX8_digest_162 : decode cX8_digest 162 = .ok (.invokevirtual 154, 3) := by decide +kernel
theorem dX8_digest_165 : decode cX8_digest 165 = .ok (.i2l, 1) := by decide +kernel
theorem dX8_digest_166 : decode cX8_digest 166 = .ok (.ladd, 1) := by decide +kernel
theorem dX8_digest_167 : decode cX8_digest 167 = .ok (.lstore_n 1, 1) := by decide +kernel
theorem dX8_digest_168 : decode cX8_digest 168 = .ok (.iinc 3 1, 3) := by decide +kernel
theorem dX8_digest_171 : decode cX8_digest 171 = .ok (.goto (-21), 3) := by decide +kernel
theorem dX8_digest_174 : decode cX8_digest 174 = .ok (.iconst 0, 1) := by decide +kernel
theorem dX8_digest_175 : decode cX8_digest 175 = .ok (.istore_n 3, 1) := by decide +kernel
theorem dX8_digest_176 : decode cX8_digest 176 = .ok (.iload_n 3, 1) := by decide +kernel
theorem dX8_digest_177 : decode cX8_digest 177 = .ok (.iconst 2, 1) := by decide +kernel
theorem dX8_digest_178 : decode cX8_digest 178 = .ok (.if_icmp .ge 22, 3) := by decide +kernel
theorem dX8_digest_181 : decode cX8_digest 181 = .ok (.ldc2_w 249, 3) := by decide +kernel
theorem dX8_digest_184 : decode cX8_digest 184 = .ok (.lload_n 1, 1) := by decide +kernel
theorem dX8_digest_185 : decode cX8_digest 185 = .ok (.lmul, 1) := by decide +kernel
theorem dX8_digest_186 : decode cX8_digest 186 = .ok (.aload_n 0, 1) := by decide +kernel
theorem dX8_digest_187 : decode cX8_digest 187 = .ok (.iload_n 3, 1) := by decide +kernel
theorem dX8_digest_188 : decode cX8_digest 188 = .ok (.invokevirtual 160, 3) := by decide +kernel
theorem dX8_digest_191 : decode cX8_digest 191 = .ok (.i2l, 1) := by decide +kernel
theorem dX8_digest_192 : decode cX8_digest 192 = .ok (.ladd, 1) := by decide +kernel
theorem dX8_digest_193 : decode cX8_digest 193 = .ok (.lstore_n 1, 1) := by decide +kernel
theorem dX8_digest_194 : decode cX8_digest 194 = .ok (.iinc 3 1, 3) := by decide +kernel
theorem dX8_digest_197 : decode cX8_digest 197 = .ok (.goto (-21), 3) := by decide +kernel
theorem dX8_digest_200 : decode cX8_digest 200 = .ok (.iconst 0, 1) := by decide +kernel
theorem dX8_digest_201 : decode cX8_digest 201 = .ok (.istore_n 3, 1) := by decide +kernel
theorem dX8_digest_202 : decode cX8_digest 202 = .ok (.iload_n 3, 1) := by decide +kernel
theorem dX8_digest_203 : decode cX8_digest 203 = .ok (.iconst 2, 1) := by decide +kernel
theorem dX8_digest_204 : decode cX8_digest 204 = .ok (.if_icmp .ge 22, 3) := by decide +kernel
theorem dX8_digest_207 : decode cX8_digest 207 = .ok (.ldc2_w 249, 3) := by decide +kernel
theorem dX8_digest_210 : decode cX8_digest 210 = .ok (.lload_n 1, 1) := by decide +kernel
theorem dX8_digest_211 : decode cX8_digest 211 = .ok (.lmul, 1) := by decide +kernel
theorem dX8_digest_212 : decode cX8_digest 212 = .ok (.aload_n 0, 1) := by decide +kernel
theorem dX8_digest_213 : decode cX8_digest 213 = .ok (.iload_n 3, 1) := by decide +kernel
theorem dX8_digest_214 : decode cX8_digest 214 = .ok (.invokevirtual 163, 3) := by decide +kernel
theorem dX8_digest_217 : decode cX8_digest 217 = .ok (.i2l, 1) := by decide +kernel
theorem dX8_digest_218 : decode cX8_digest 218 = .ok (.ladd, 1) := by decide +kernel
theorem dX8_digest_219 : decode cX8_digest 219 = .ok (.lstore_n 1, 1) := by decide +kernel
theorem dX8_digest_220 : decode cX8_digest 220 = .ok (.iinc 3 1, 3) := by decide +kernel
theorem dX8_digest_223 : decode cX8_digest 223 = .ok (.goto (-21), 3) := by decide +kernel
theorem dX8_digest_226 : decode cX8_digest 226 = .ok (.ldc2_w 249, 3) := by decide +kernel
theorem dX8_digest_229 : decode cX8_digest 229 = .ok (.lload_n 1, 1) := by decide +kernel
theorem dX8_digest_230 : decode cX8_digest 230 = .ok (.lmul, 1) := by decide +kernel
theorem dX8_digest_231 : decode cX8_digest 231 = .ok (.aload_n 0, 1) := by decide +kernel
theorem dX8_digest_232 : decode cX8_digest 232 = .ok (.iconst 0, 1) := by decide +kernel
theorem dX8_digest_233 : decode cX8_digest 233 = .ok (.invokevirtual 148, 3) := by decide +kernel
theorem dX8_digest_236 : decode cX8_digest 236 = .ok (.i2l, 1) := by decide +kernel
theorem dX8_digest_237 : decode cX8_digest 237 = .ok (.ladd, 1) := by decide +kernel
theorem dX8_digest_238 : decode cX8_digest 238 = .ok (.lstore_n 1, 1) := by decide +kernel
theorem dX8_digest_239 : decode cX8_digest 239 = .ok (.ldc2_w 249, 3) := by decide +kernel
theorem dX8_digest_242 : decode cX8_digest 242 = .ok (.lload_n 1, 1) := by decide +kernel
theorem dX8_digest_243 : decode cX8_digest 243 = .ok (.lmul, 1) := by decide +kernel
theorem dX8_digest_244 : decode cX8_digest 244 = .ok (.aload_n 0, 1) := by decide +kernel
theorem dX8_digest_245 : decode cX8_digest 245 = .ok (.iconst 5, 1) := by decide +kernel
theorem dX8_digest_246 : decode cX8_digest 246 = .ok (.invokevirtual 148, 3) := by decide +kernel
theorem dX8_digest_249 : decode cX8_digest 249 = .ok (.i2l, 1) := by decide +kernel
theorem dX8_digest_250 : decode cX8_digest 250 = .ok (.ladd, 1) := by decide +kernel
theorem dX8_digest_251 : decode cX8_digest 251 = .ok (.lstore_n 1, 1) := by decide +kernel
theorem dX8_digest_252 : decode cX8_digest 252 = .ok (.ldc2_w 249, 3) := by decide +kernel
theorem dX8_digest_255 : decode cX8_digest 255 = .ok (.lload_n 1, 1) := by decide +kernel
theorem dX8_digest_256 : decode cX8_digest 256 = .ok (.lmul, 1) := by decide +kernel
theorem dX8_digest_257 : decode cX8_digest 257 = .ok (.aload_n 0, 1) := by decide +kernel
theorem dX8_digest_258 : decode cX8_digest 258 = .ok (.sipush 1023, 3) := by decide +kernel
theorem dX8_digest_261 : decode cX8_digest 261 = .ok (.invokevirtual 148, 3) := by decide +kernel
theorem dX8_digest_264 : decode cX8_digest 264 = .ok (.i2l, 1) := by decide +kernel
theorem dX8_digest_265 : decode cX8_digest 265 = .ok (.ladd, 1) := by decide +kernel
theorem dX8_digest_266 : decode cX8_digest 266 = .ok (.lstore_n 1, 1) := by decide +kernel
theorem dX8_digest_267 : decode cX8_digest 267 = .ok (.ldc2_w 249, 3) := by decide +kernel
theorem dX8_digest_270 : decode cX8_digest 270 = .ok (.lload_n 1, 1) := by decide +kernel
theorem dX8_digest_271 : decode cX8_digest 271 = .ok (.lmul, 1) := by decide +kernel
theorem dX8_digest_272 : decode cX8_digest 272 = .ok (.aload_n 0, 1) := by decide +kernel
theorem dX8_digest_273 : decode cX8_digest 273 = .ok (.iconst 5, 1) := by decide +kernel
theorem dX8_digest_274 : decode cX8_digest 274 = .ok (.invokevirtual 166, 3) := by decide +kernel
theorem dX8_digest_277 : decode cX8_digest 277 = .ok (.i2l, 1) := by decide +kernel
theorem dX8_digest_278 : decode cX8_digest 278 = .ok (.ladd, 1) := by decide +kernel
theorem dX8_digest_279 : decode cX8_digest 279 = .ok (.lstore_n 1, 1) := by decide +kernel
theorem dX8_digest_280 : decode cX8_digest 280 = .ok (.ldc2_w 249, 3) := by decide +kernel
theorem dX8_digest_283 : decode cX8_digest 283 = .ok (.lload_n 1, 1) := by decide +kernel
theorem dX8_digest_284 : decode cX8_digest 284 = .ok (.lmul, 1) := by decide +kernel
theorem dX8_digest_285 : decode cX8_digest 285 = .ok (.aload_n 0, 1) := by decide +kernel
theorem dX8_digest_286 : decode cX8_digest 286 = .ok (.iconst 0, 1) := by decide +kernel
theorem dX8_digest_287 : decode cX8_digest 287 = .ok (.iconst 3, 1) := by decide +kernel
theorem dX8_digest_288 : decode cX8_digest 288 = .ok (.invokevirtual 169, 3) := by decide +kernel
theorem dX8_digest_291 : decode cX8_digest 291 = .ok (.i2l, 1) := by decide +kernel
theorem dX8_digest_292 : decode cX8_digest 292 = .ok (.ladd, 1) := by decide +kernel
theorem dX8_digest_293 : decode cX8_digest 293 = .ok (.lstore_n 1, 1) := by decide +kernel
theorem dX8_digest_294 : decode cX8_digest 294 = .ok (.ldc2_w 249, 3) := by decide +kernel
theorem dX8_digest_297 : decode cX8_digest 297 = .ok (.lload_n 1, 1) := by decide +kernel
theorem dX8_digest_298 : decode cX8_digest 298 = .ok (.lmul, 1) := by decide +kernel
theorem dX8_digest_299 : decode cX8_digest 299 = .ok (.aload_n 0, 1) := by decide +kernel
theorem dX8_digest_300 : decode cX8_digest 300 = .ok (.iconst 0, 1) := by decide +kernel
theorem dX8_digest_301 : decode cX8_digest 301 = .ok (.iconst 0, 1) := by decide +kernel
theorem dX8_digest_302 : decode cX8_digest 302 = .ok (.invokevirtual 172, 3) := by decide +kernel
theorem dX8_digest_305 : decode cX8_digest 305 = .ok (.i2l, 1) := by decide +kernel
theorem dX8_digest_306 : decode cX8_digest 306 = .ok (.ladd, 1) := by decide +kernel
theorem dX8_digest_307 : decode cX8_digest 307 = .ok (.lstore_n 1, 1) := by decide +kernel
theorem dX8_digest_308 : decode cX8_digest 308 = .ok (.ldc2_w 249, 3) := by decide +kernel
theorem dX8_digest_311 : decode cX8_digest 311 = .ok (.lload_n 1, 1) := by decide +kernel
theorem dX8_digest_312 : decode cX8_digest 312 = .ok (.lmul, 1) := by decide +kernel
theorem dX8_digest_313 : decode cX8_digest 313 = .ok (.aload_n 0, 1) := by decide +kernel
theorem dX8_digest_314 : decode cX8_digest 314 = .ok (.iconst 0, 1) := by decide +kernel
theorem dX8_digest_315 : decode cX8_digest 315 = .ok (.iconst 1, 1) := by decide +kernel
theorem dX8_digest_316 : decode cX8_digest 316 = .ok (.invokevirtual 172, 3) := by decide +kernel
theorem dX8_digest_319 : decode cX8_digest 319 = .ok (.i2l, 1) := by decide +kernel
theorem dX8_digest_320 : decode cX8_digest 320 = .ok (.ladd, 1) := by decide +kernel
theorem dX8_digest_321 : decode cX8_digest 321 = .ok (.lstore_n 1, 1) := by decide +kernel
theorem dX8_digest_322 : decode cX8_digest 322 = .ok (.ldc2_w 249, 3) := by decide +kernel
theorem dX8_digest_325 : decode cX8_digest 325 = .ok (.lload_n 1, 1) := by decide +kernel
theorem dX8_digest_326 : decode cX8_digest 326 = .ok (.lmul, 1) := by decide +kernel
theorem dX8_digest_327 : decode cX8_digest 327 = .ok (.aload_n 0, 1) := by decide +kernel
theorem dX8_digest_328 : decode cX8_digest 328 = .ok (.invokevirtual 181, 3) := by decide +kernel
theorem dX8_digest_331 : decode cX8_digest 331 = .ok (.i2l, 1) := by decide +kernel
theorem dX8_digest_332 : decode cX8_digest 332 = .ok (.ladd, 1) := by decide +kernel
theorem dX8_digest_333 : decode cX8_digest 333 = .ok (.lstore_n 1, 1) := by decide +kernel
theorem dX8_digest_334 : decode cX8_digest 334 = .ok (.iconst 0, 1) := by decide +kernel
theorem dX8_digest_335 : decode cX8_digest 335 = .ok (.istore_n 3, 1) := by decide +kernel
theorem dX8_digest_336 : decode cX8_digest 336 = .ok (.iload_n 3, 1) := by decide +kernel
theorem dX8_digest_337 : decode cX8_digest 337 = .ok (.bipush 6, 2) := by decide +kernel
theorem dX8_digest_339 : decode cX8_digest 339 = .ok (.if_icmp .ge 99, 3) := by decide +kernel
theorem dX8_digest_342 : decode cX8_digest 342 = .ok (.ldc2_w 249, 3) := by decide +kernel
theorem dX8_digest_345 : decode cX8_digest 345 = .ok (.lload_n 1, 1) := by decide +kernel
theorem dX8_digest_346 : decode cX8_digest 346 = .ok (.lmul, 1) := by decide +kernel
theorem dX8_digest_347 : decode cX8_digest 347 = .ok (.aload_n 0, 1) := by decide +kernel
theorem dX8_digest_348 : decode cX8_digest 348 = .ok (.sipush 1023, 3) := by decide +kernel
theorem dX8_digest_351 : decode cX8_digest 351 = .ok (.iload_n 3, 1) := by decide +kernel
theorem dX8_digest_352 : decode cX8_digest 352 = .ok (.bipush 20, 2) := by decide +kernel
theorem dX8_digest_354 : decode cX8_digest 354 = .ok (.invokevirtual 190, 3) := by decide +kernel
theorem dX8_digest_357 : decode cX8_digest 357 = .ok (.i2l, 1) := by decide +kernel
theorem dX8_digest_358 : decode cX8_digest 358 = .ok (.ladd, 1) := by decide +kernel
theorem dX8_digest_359 : decode cX8_digest 359 = .ok (.lstore_n 1, 1) := by decide +kernel
theorem dX8_digest_360 : decode cX8_digest 360 = .ok (.ldc2_w 249, 3) := by decide +kernel
theorem dX8_digest_363 : decode cX8_digest 363 = .ok (.lload_n 1, 1) := by decide +kernel
theorem dX8_digest_364 : decode cX8_digest 364 = .ok (.lmul, 1) := by decide +kernel
theorem dX8_digest_365 : decode cX8_digest 365 = .ok (.aload_n 0, 1) := by decide +kernel
theorem dX8_digest_366 : decode cX8_digest 366 = .ok (.sipush 1023, 3) := by decide +kernel
theorem dX8_digest_369 : decode cX8_digest 369 = .ok (.iload_n 3, 1) := by decide +kernel
theorem dX8_digest_370 : decode cX8_digest 370 = .ok (.bipush 20, 2) := by decide +kernel
theorem dX8_digest_372 : decode cX8_digest 372 = .ok (.invokevirtual 193, 3) := by decide +kernel
theorem dX8_digest_375 : decode cX8_digest 375 = .ok (.i2l, 1) := by decide +kernel
theorem dX8_digest_376 : decode cX8_digest 376 = .ok (.ladd, 1) := by decide +kernel
theorem dX8_digest_377 : decode cX8_digest 377 = .ok (.lstore_n 1, 1) := by decide +kernel
theorem dX8_digest_378 : decode cX8_digest 378 = .ok (.ldc2_w 249, 3) := by decide +kernel
theorem dX8_digest_381 : decode cX8_digest 381 = .ok (.lload_n 1, 1) := by decide +kernel
theorem dX8_digest_382 : decode cX8_digest 382 = .ok (.lmul, 1) := by decide +kernel
theorem dX8_digest_383 : decode cX8_digest 383 = .ok (.aload_n 0, 1) := by decide +kernel
theorem dX8_digest_384 : decode cX8_digest 384 = .ok (.iload_n 3, 1) := by decide +kernel
theorem dX8_digest_385 : decode cX8_digest 385 = .ok (.iconst 0, 1) := by decide +kernel
theorem dX8_digest_386 : decode cX8_digest 386 = .ok (.invokevirtual 205, 3) := by decide +kernel
theorem dX8_digest_389 : decode cX8_digest 389 = .ok (.i2l, 1) := by decide +kernel
theorem dX8_digest_390 : decode cX8_digest 390 = .ok (.ladd, 1) := by decide +kernel
theorem dX8_digest_391 : decode cX8_digest 391 = .ok (.lstore_n 1, 1) := by decide +kernel
theorem dX8_digest_392 : decode cX8_digest 392 = .ok (.ldc2_w 249, 3) := by decide +kernel
theorem dX8_digest_395 : decode cX8_digest 395 = .ok (.lload_n 1, 1) := by decide +kernel
theorem dX8_digest_396 : decode cX8_digest 396 = .ok (.lmul, 1) := by decide +kernel
theorem dX8_digest_397 : decode cX8_digest 397 = .ok (.aload_n 0, 1) := by decide +kernel
theorem dX8_digest_398 : decode cX8_digest 398 = .ok (.iload_n 3, 1) := by decide +kernel
theorem dX8_digest_399 : decode cX8_digest 399 = .ok (.iconst 1, 1) := by decide +kernel
theorem dX8_digest_400 : decode cX8_digest 400 = .ok (.invokevirtual 205, 3) := by decide +kernel
theorem dX8_digest_403 : decode cX8_digest 403 = .ok (.i2l, 1) := by decide +kernel
theorem dX8_digest_404 : decode cX8_digest 404 = .ok (.ladd, 1) := by decide +kernel
theorem dX8_digest_405 : decode cX8_digest 405 = .ok (.lstore_n 1, 1) := by decide +kernel
theorem dX8_digest_406 : decode cX8_digest 406 = .ok (.ldc2_w 249, 3) := by decide +kernel
theorem dX8_digest_409 : decode cX8_digest 409 = .ok (.lload_n 1, 1) := by decide +kernel
theorem dX8_digest_410 : decode cX8_digest 410 = .ok (.lmul, 1) := by decide +kernel
theorem dX8_digest_411 : decode cX8_digest 411 = .ok (.aload_n 0, 1) := by decide +kernel
theorem dX8_digest_412 : decode cX8_digest 412 = .ok (.iload_n 3, 1) := by decide +kernel
theorem dX8_digest_413 : decode cX8_digest 413 = .ok (.invokevirtual 214, 3) := by decide +kernel
theorem dX8_digest_416 : decode cX8_digest 416 = .ok (.i2l, 1) := by decide +kernel
theorem dX8_digest_417 : decode cX8_digest 417 = .ok (.ladd, 1) := by decide +kernel
theorem dX8_digest_418 : decode cX8_digest 418 = .ok (.lstore_n 1, 1) := by decide +kernel
theorem dX8_digest_419 : decode cX8_digest 419 = .ok (.ldc2_w 249, 3) := by decide +kernel
theorem dX8_digest_422 : decode cX8_digest 422 = .ok (.lload_n 1, 1) := by decide +kernel
theorem dX8_digest_423 : decode cX8_digest 423 = .ok (.lmul, 1) := by decide +kernel
theorem dX8_digest_424 : decode cX8_digest 424 = .ok (.aload_n 0, 1) := by decide +kernel
theorem dX8_digest_425 : decode cX8_digest 425 = .ok (.iload_n 3, 1) := by decide +kernel
theorem dX8_digest_426 : decode cX8_digest 426 = .ok (.invokevirtual 254, 3) := by decide +kernel
theorem dX8_digest_429 : decode cX8_digest 429 = .ok (.i2l, 1) := by decide +kernel
theorem dX8_digest_430 : decode cX8_digest 430 = .ok (.ladd, 1) := by decide +kernel
theorem dX8_digest_431 : decode cX8_digest 431 = .ok (.lstore_n 1, 1) := by decide +kernel
theorem dX8_digest_432 : decode cX8_digest 432 = .ok (.iinc 3 1, 3) := by decide +kernel
theorem dX8_digest_435 : decode cX8_digest 435 = .ok (.goto (-99), 3) := by decide +kernel
theorem dX8_digest_438 : decode cX8_digest 438 = .ok (.ldc2_w 249, 3) := by decide +kernel
theorem dX8_digest_441 : decode cX8_digest 441 = .ok (.lload_n 1, 1) := by decide +kernel
theorem dX8_digest_442 : decode cX8_digest 442 = .ok (.lmul, 1) := by decide +kernel
theorem dX8_digest_443 : decode cX8_digest 443 = .ok (.aload_n 0, 1) := by decide +kernel
theorem dX8_digest_444 : decode cX8_digest 444 = .ok (.sipush 1023, 3) := by decide +kernel
theorem dX8_digest_447 : decode cX8_digest 447 = .ok (.bipush 20, 2) := by decide +kernel
theorem dX8_digest_449 : decode cX8_digest 449 = .ok (.invokevirtual 196, 3) := by decide +kernel
theorem dX8_digest_452 : decode cX8_digest 452 = .ok (.i2l, 1) := by decide +kernel
theorem dX8_digest_453 : decode cX8_digest 453 = .ok (.ladd, 1) := by decide +kernel
theorem dX8_digest_454 : decode cX8_digest 454 = .ok (.lstore_n 1, 1) := by decide +kernel
theorem dX8_digest_455 : decode cX8_digest 455 = .ok (.aload_n 0, 1) := by decide +kernel
theorem dX8_digest_456 : decode cX8_digest 456 = .ok (.iconst 0, 1) := by decide +kernel
theorem dX8_digest_457 : decode cX8_digest 457 = .ok (.invokevirtual 151, 3) := by decide +kernel
theorem dX8_digest_460 : decode cX8_digest 460 = .ok (.istore_n 3, 1) := by decide +kernel
theorem dX8_digest_461 : decode cX8_digest 461 = .ok (.ldc2_w 249, 3) := by decide +kernel
theorem dX8_digest_464 : decode cX8_digest 464 = .ok (.lload_n 1, 1) := by decide +kernel
theorem dX8_digest_465 : decode cX8_digest 465 = .ok (.lmul, 1) := by decide +kernel
theorem dX8_digest_466 : decode cX8_digest 466 = .ok (.aload_n 0, 1) := by decide +kernel
theorem dX8_digest_467 : decode cX8_digest 467 = .ok (.iload_n 3, 1) := by decide +kernel
theorem dX8_digest_468 : decode cX8_digest 468 = .ok (.iconst (-1), 1) := by decide +kernel
theorem dX8_digest_469 : decode cX8_digest 469 = .ok (.if_icmp .ne 7, 3) := by decide +kernel
theorem dX8_digest_472 : decode cX8_digest 472 = .ok (.iconst 0, 1) := by decide +kernel
theorem dX8_digest_473 : decode cX8_digest 473 = .ok (.goto 4, 3) := by decide +kernel
theorem dX8_digest_476 : decode cX8_digest 476 = .ok (.iload_n 3, 1) := by decide +kernel
theorem dX8_digest_477 : decode cX8_digest 477 = .ok (.iconst 0, 1) := by decide +kernel
theorem dX8_digest_478 : decode cX8_digest 478 = .ok (.invokevirtual 208, 3) := by decide +kernel
theorem dX8_digest_481 : decode cX8_digest 481 = .ok (.i2l, 1) := by decide +kernel
theorem dX8_digest_482 : decode cX8_digest 482 = .ok (.ladd, 1) := by decide +kernel
theorem dX8_digest_483 : decode cX8_digest 483 = .ok (.lstore_n 1, 1) := by decide +kernel
theorem dX8_digest_484 : decode cX8_digest 484 = .ok (.ldc2_w 249, 3) := by decide +kernel
theorem dX8_digest_487 : decode cX8_digest 487 = .ok (.lload_n 1, 1) := by decide +kernel
theorem dX8_digest_488 : decode cX8_digest 488 = .ok (.lmul, 1) := by decide +kernel
theorem dX8_digest_489 : decode cX8_digest 489 = .ok (.aload_n 0, 1) := by decide +kernel
theorem dX8_digest_490 : decode cX8_digest 490 = .ok (.iconst (-1), 1) := by decide +kernel
theorem dX8_digest_491 : decode cX8_digest 491 = .ok (.invokevirtual 214, 3) := by decide +kernel
theorem dX8_digest_494 : decode cX8_digest 494 = .ok (.i2l, 1) := by decide +kernel
theorem dX8_digest_495 : decode cX8_digest 495 = .ok (.ladd, 1) := by decide +kernel
theorem dX8_digest_496 : decode cX8_digest 496 = .ok (.lstore_n 1, 1) := by decide +kernel
theorem dX8_digest_497 : decode cX8_digest 497 = .ok (.ldc2_w 249, 3) := by decide +kernel
theorem dX8_digest_500 : decode cX8_digest 500 = .ok (.lload_n 1, 1) := by decide +kernel
theorem dX8_digest_501 : decode cX8_digest 501 = .ok (.lmul, 1) := by decide +kernel
theorem dX8_digest_502 : decode cX8_digest 502 = .ok (.aload_n 0, 1) := by decide +kernel
theorem dX8_digest_503 : decode cX8_digest 503 = .ok (.invokevirtual 217, 3) := by decide +kernel
theorem dX8_digest_506 : decode cX8_digest 506 = .ok (.i2l, 1) := by decide +kernel
theorem dX8_digest_507 : decode cX8_digest 507 = .ok (.ladd, 1) := by decide +kernel
theorem dX8_digest_508 : decode cX8_digest 508 = .ok (.lstore_n 1, 1) := by decide +kernel
theorem dX8_digest_509 : decode cX8_digest 509 = .ok (.ldc2_w 249, 3) := by decide +kernel
theorem dX8_digest_512 : decode cX8_digest 512 = .ok (.lload_n 1, 1) := by decide +kernel
theorem dX8_digest_513 : decode cX8_digest 513 = .ok (.lmul, 1) := by decide +kernel
theorem dX8_digest_514 : decode cX8_digest 514 = .ok (.aload_n 0, 1) := by decide +kernel
theorem dX8_digest_515 : decode cX8_digest 515 = .ok (.invokevirtual 220, 3) := by decide +kernel
theorem dX8_digest_518 : decode cX8_digest 518 = .ok (.i2l, 1) := by decide +kernel
theorem dX8_digest_519 : decode cX8_digest 519 = .ok (.ladd, 1) := by decide +kernel
theorem dX8_digest_520 : decode cX8_digest 520 = .ok (.lstore_n 1, 1) := by decide +kernel
theorem dX8_digest_521 : decode cX8_digest 521 = .ok (.ldc2_w 249, 3) := by decide +kernel
theorem dX8_digest_524 : decode cX8_digest 524 = .ok (.lload_n 1, 1) := by decide +kernel
theorem dX8_digest_525 : decode cX8_digest 525 = .ok (.lmul, 1) := by decide +kernel
theorem dX8_digest_526 : decode cX8_digest 526 = .ok (.aload_n 0, 1) := by decide +kernel
theorem dX8_digest_527 : decode cX8_digest 527 = .ok (.iconst 0, 1) := by decide +kernel
theorem dX8_digest_528 : decode cX8_digest 528 = .ok (.invokevirtual 226, 3) := by decide +kernel
theorem dX8_digest_531 : decode cX8_digest 531 = .ok (.i2l, 1) := by decide +kernel
theorem dX8_digest_532 : decode cX8_digest 532 = .ok (.ladd, 1) := by decide +kernel
theorem dX8_digest_533 : decode cX8_digest 533 = .ok (.lstore_n 1, 1) := by decide +kernel
theorem dX8_digest_534 : decode cX8_digest 534 = .ok (.ldc2_w 249, 3) := by decide +kernel
theorem dX8_digest_537 : decode cX8_digest 537 = .ok (.lload_n 1, 1) := by decide +kernel
theorem dX8_digest_538 : decode cX8_digest 538 = .ok (.lmul, 1) := by decide +kernel
theorem dX8_digest_539 : decode cX8_digest 539 = .ok (.aload_n 0, 1) := by decide +kernel
theorem dX8_digest_540 : decode cX8_digest 540 = .ok (.iconst 1, 1) := by decide +kernel
theorem dX8_digest_541 : decode cX8_digest 541 = .ok (.invokevirtual 226, 3) := by decide +kernel
theorem dX8_digest_544 : decode cX8_digest 544 = .ok (.i2l, 1) := by decide +kernel
theorem dX8_digest_545 : decode cX8_digest 545 = .ok (.ladd, 1) := by decide +kernel
theorem dX8_digest_546 : decode cX8_digest 546 = .ok (.lstore_n 1, 1) := by decide +kernel
theorem dX8_digest_547 : decode cX8_digest 547 = .ok (.ldc2_w 249, 3) := by decide +kernel
theorem dX8_digest_550 : decode cX8_digest 550 = .ok (.lload_n 1, 1) := by decide +kernel
theorem dX8_digest_551 : decode cX8_digest 551 = .ok (.lmul, 1) := by decide +kernel
theorem dX8_digest_552 : decode cX8_digest 552 = .ok (.aload_n 0, 1) := by decide +kernel
theorem dX8_digest_553 : decode cX8_digest 553 = .ok (.bipush 7, 2) := by decide +kernel
theorem dX8_digest_555 : decode cX8_digest 555 = .ok (.iconst 0, 1) := by decide +kernel
theorem dX8_digest_556 : decode cX8_digest 556 = .ok (.invokevirtual 230, 3) := by decide +kernel
theorem dX8_digest_559 : decode cX8_digest 559 = .ok (.i2l, 1) := by decide +kernel
theorem dX8_digest_560 : decode cX8_digest 560 = .ok (.ladd, 1) := by decide +kernel
theorem dX8_digest_561 : decode cX8_digest 561 = .ok (.lstore_n 1, 1) := by decide +kernel
theorem dX8_digest_562 : decode cX8_digest 562 = .ok (.ldc2_w 249, 3) := by decide +kernel
theorem dX8_digest_565 : decode cX8_digest 565 = .ok (.lload_n 1, 1) := by decide +kernel
theorem dX8_digest_566 : decode cX8_digest 566 = .ok (.lmul, 1) := by decide +kernel
theorem dX8_digest_567 : decode cX8_digest 567 = .ok (.aload_n 0, 1) := by decide +kernel
theorem dX8_digest_568 : decode cX8_digest 568 = .ok (.bipush 7, 2) := by decide +kernel
theorem dX8_digest_570 : decode cX8_digest 570 = .ok (.bipush 20, 2) := by decide +kernel
theorem dX8_digest_572 : decode cX8_digest 572 = .ok (.invokevirtual 230, 3) := by decide +kernel
theorem dX8_digest_575 : decode cX8_digest 575 = .ok (.i2l, 1) := by decide +kernel
theorem dX8_digest_576 : decode cX8_digest 576 = .ok (.ladd, 1) := by decide +kernel
theorem dX8_digest_577 : decode cX8_digest 577 = .ok (.lreturn, 1) := by decide +kernel
