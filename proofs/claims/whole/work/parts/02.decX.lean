theorem dX0_init_0 : decode cX0_init 0 = .ok (.aload_n 0, 1) := by decide +kernel
theorem dX0_init_1 : decode cX0_init 1 = .ok (.invokespecial 3, 3) := by decide +kernel
theorem dX0_init_4 : decode cX0_init 4 = .ok (.aload_n 0, 1) := by decide +kernel
theorem dX0_init_5 : decode cX0_init 5 = .ok (.bipush 10, 2) := by decide +kernel
theorem dX0_init_7 : decode cX0_init 7 = .ok (.newarray .int, 2) := by decide +kernel
theorem dX0_init_9 : decode cX0_init 9 = .ok (.putfield 9, 3) := by decide +kernel
theorem dX0_init_12 : decode cX0_init 12 = .ok (.aload_n 0, 1) := by decide +kernel
theorem dX0_init_13 : decode cX0_init 13 = .ok (.sipush 1024, 3) := by decide +kernel
theorem dX0_init_16 : decode cX0_init 16 = .ok (.newarray .int, 2) := by decide +kernel
theorem dX0_init_18 : decode cX0_init 18 = .ok (.putfield 15, 3) := by decide +kernel
theorem dX0_init_21 : decode cX0_init 21 = .ok (.return_, 1) := by decide +kernel
theorem dX0_workOut_0 : decode cX0_workOut 0 = .ok (.aload_n 1, 1) := by decide +kernel
theorem dX0_workOut_1 : decode cX0_workOut 1 = .ok (.invokevirtual 18, 3) := by decide +kernel
theorem dX0_workOut_4 : decode cX0_workOut 4 = .ok (.bipush 10, 2) := by decide +kernel
theorem dX0_workOut_6 : decode cX0_workOut 6 = .ok (.invokestatic 24, 3) := by decide +kernel
theorem dX0_workOut_9 : decode cX0_workOut 9 = .ok (.istore 5, 2) := by decide +kernel
theorem dX0_workOut_11 : decode cX0_workOut 11 = .ok (.aload_n 0, 1) := by decide +kernel
theorem dX0_workOut_12 : decode cX0_workOut 12 = .ok (.iconst 1, 1) := by decide +kernel
theorem dX0_workOut_13 : decode cX0_workOut 13 = .ok (.iload 5, 2) := by decide +kernel
theorem dX0_workOut_15 : decode cX0_workOut 15 = .ok (.ishl, 1) := by decide +kernel
theorem dX0_workOut_16 : decode cX0_workOut 16 = .ok (.iconst 1, 1) := by decide +kernel
theorem dX0_workOut_17 : decode cX0_workOut 17 = .ok (.isub, 1) := by decide +kernel
theorem dX0_workOut_18 : decode cX0_workOut 18 = .ok (.putfield 30, 3) := by decide +kernel
theorem dX0_workOut_21 : decode cX0_workOut 21 = .ok (.aload_n 0, 1) := by decide +kernel
theorem dX0_workOut_22 : decode cX0_workOut 22 = .ok (.iconst 1, 1) := by decide +kernel
theorem dX0_workOut_23 : decode cX0_workOut 23 = .ok (.aload_n 2, 1) := by decide +kernel
theorem dX0_workOut_24 : decode cX0_workOut 24 = .ok (.invokevirtual 18, 3) := by decide +kernel
theorem dX0_workOut_27 : decode cX0_workOut 27 = .ok (.ishl, 1) := by decide +kernel
theorem dX0_workOut_28 : decode cX0_workOut 28 = .ok (.iconst 1, 1) := by decide +kernel
theorem dX0_workOut_29 : decode cX0_workOut 29 = .ok (.isub, 1) := by decide +kernel
theorem dX0_workOut_30 : decode cX0_workOut 30 = .ok (.putfield 34, 3) := by decide +kernel
theorem dX0_workOut_33 : decode cX0_workOut 33 = .ok (.iconst 0, 1) := by decide +kernel
theorem dX0_workOut_34 : decode cX0_workOut 34 = .ok (.istore 6, 2) := by decide +kernel
theorem dX0_workOut_36 : decode cX0_workOut 36 = .ok (.iload 6, 2) := by decide +kernel
theorem dX0_workOut_38 : decode cX0_workOut 38 = .ok (.iload 5, 2) := by decide +kernel
theorem dX0_workOut_40 : decode cX0_workOut 40 = .ok (.if_icmp .ge 44, 3) := by decide +kernel
theorem dX0_workOut_43 : decode cX0_workOut 43 = .ok (.aload_n 0, 1) := by decide +kernel
theorem dX0_workOut_44 : decode cX0_workOut 44 = .ok (.getfield 9, 3) := by decide +kernel
theorem dX0_workOut_47 : decode cX0_workOut 47 = .ok (.iload 6, 2) := by decide +kernel
theorem dX0_workOut_49 : decode cX0_workOut 49 = .ok (.aload_n 1, 1) := by decide +kernel
theorem dX0_workOut_50 : decode cX0_workOut 50 = .ok (.iload 6, 2) := by decide +kernel
theorem dX0_workOut_52 : decode cX0_workOut 52 = .ok (.aload_n 2, 1) := by decide +kernel
theorem dX0_workOut_53 : decode cX0_workOut 53 = .ok (.iload_n 3, 1) := by decide +kernel
theorem dX0_workOut_54 : decode cX0_workOut 54 = .ok (.iload 4, 2) := by decide +kernel
theorem dX0_workOut_56 : decode cX0_workOut 56 = .ok (.invokestatic 37, 3) := by decide +kernel
theorem dX0_workOut_59 : decode cX0_workOut 59 = .ok (.iastore, 1) := by decide +kernel
theorem dX0_workOut_60 : decode cX0_workOut 60 = .ok (.aload_n 0, 1) := by decide +kernel
theorem dX0_workOut_61 : decode cX0_workOut 61 = .ok (.dup, 1) := by decide +kernel
theorem dX0_workOut_62 : decode cX0_workOut 62 = .ok (.getfield 34, 3) := by decide +kernel
theorem dX0_workOut_65 : decode cX0_workOut 65 = .ok (.aload_n 0, 1) := by decide +kernel
theorem dX0_workOut_66 : decode cX0_workOut 66 = .ok (.getfield 9, 3) := by decide +kernel
theorem dX0_workOut_69 : decode cX0_workOut 69 = .ok (.iload 6, 2) := by decide +kernel
theorem dX0_workOut_71 : decode cX0_workOut 71 = .ok (.iaload, 1) := by decide +kernel
theorem dX0_workOut_72 : decode cX0_workOut 72 = .ok (.iconst (-1), 1) := by decide +kernel
theorem dX0_workOut_73 : decode cX0_workOut 73 = .ok (.ixor, 1) := by decide +kernel
theorem dX0_workOut_74 : decode cX0_workOut 74 = .ok (.iand, 1) := by decide +kernel
theorem dX0_workOut_75 : decode cX0_workOut 75 = .ok (.putfield 34, 3) := by decide +kernel
theorem dX0_workOut_78 : decode cX0_workOut 78 = .ok (.iinc 6 1, 3) := by decide +kernel
theorem dX0_workOut_81 : decode cX0_workOut 81 = .ok (.goto (-45), 3) := by decide +kernel
theorem dX0_workOut_84 : decode cX0_workOut 84 = .ok (.aload_n 0, 1) := by decide +kernel
theorem dX0_workOut_85 : decode cX0_workOut 85 = .ok (.iload 5, 2) := by decide +kernel
theorem dX0_workOut_87 : decode cX0_workOut 87 = .ok (.invokevirtual 41, 3) := by decide +kernel
theorem dX0_workOut_90 : decode cX0_workOut 90 = .ok (.aload_n 0, 1) := by decide +kernel
theorem dX0_workOut_91 : decode cX0_workOut 91 = .ok (.iconst 0, 1) := by decide +kernel
theorem dX0_workOut_92 : decode cX0_workOut 92 = .ok (.putfield 45, 3) := by decide +kernel
theorem dX0_workOut_95 : decode cX0_workOut 95 = .ok (.iconst 1, 1) := by decide +kernel
theorem dX0_workOut_96 : decode cX0_workOut 96 = .ok (.istore 6, 2) := by decide +kernel
theorem dX0_workOut_98 : decode cX0_workOut 98 = .ok (.iload 6, 2) := by decide +kernel
theorem dX0_workOut_100 : decode cX0_workOut 100 = .ok (.aload_n 0, 1) := by decide +kernel
theorem dX0_workOut_101 : decode cX0_workOut 101 = .ok (.getfield 30, 3) := by decide +kernel
theorem dX0_workOut_104 : decode cX0_workOut 104 = .ok (.if_icmp .gt 57, 3) := by decide +kernel
theorem dX0_workOut_107 : decode cX0_workOut 107 = .ok (.aload_n 0, 1) := by decide +kernel
theorem dX0_workOut_108 : decode cX0_workOut 108 = .ok (.iload 6, 2) := by decide +kernel
theorem dX0_workOut_110 : decode cX0_workOut 110 = .ok (.invokevirtual 48, 3) := by decide +kernel
theorem dX0_workOut_113 : decode cX0_workOut 113 = .ok (.aload_n 0, 1) := by decide +kernel
theorem dX0_workOut_114 : decode cX0_workOut 114 = .ok (.aload_n 0, 1) := by decide +kernel
theorem dX0_workOut_115 : decode cX0_workOut 115 = .ok (.getfield 45, 3) := by decide +kernel
theorem dX0_workOut_118 : decode cX0_workOut 118 = .ok (.invokevirtual 48, 3) := by decide +kernel
theorem dX0_workOut_121 : decode cX0_workOut 121 = .ok (.isub, 1) := by decide +kernel
theorem dX0_workOut_122 : decode cX0_workOut 122 = .ok (.istore 7, 2) := by decide +kernel
theorem dX0_workOut_124 : decode cX0_workOut 124 = .ok (.iload 7, 2) := by decide +kernel
theorem dX0_workOut_126 : decode cX0_workOut 126 = .ok (.ifCond .gt 23, 3) := by decide +kernel
theorem dX0_workOut_129 : decode cX0_workOut 129 = .ok (.iload 7, 2) := by decide +kernel
theorem dX0_workOut_131 : decode cX0_workOut 131 = .ok (.ifCond .ne 24, 3) := by decide +kernel
theorem dX0_workOut_134 : decode cX0_workOut 134 = .ok (.iload 6, 2) := by decide +kernel
theorem dX0_workOut_136 : decode cX0_workOut 136 = .ok (.invokestatic 52, 3) := by decide +kernel
theorem dX0_workOut_139 : decode cX0_workOut 139 = .ok (.aload_n 0, 1) := by decide +kernel
theorem dX0_workOut_140 : decode cX0_workOut 140 = .ok (.getfield 45, 3) := by decide +kernel
theorem dX0_workOut_143 : decode cX0_workOut 143 = .ok (.invokestatic 52, 3) := by decide +kernel
theorem dX0_workOut_146 : decode cX0_workOut 146 = .ok (.if_icmp .ge 9, 3) := by decide +kernel
theorem dX0_workOut_149 : decode cX0_workOut 149 = .ok (.aload_n 0, 1) := by decide +kernel
theorem dX0_workOut_150 : decode cX0_workOut 150 = .ok (.iload 6, 2) := by decide +kernel
theorem dX0_workOut_152 : decode cX0_workOut 152 = .ok (.putfield 45, 3) := by decide +kernel
theorem dX0_workOut_155 : decode cX0_workOut 155 = .ok (.iinc 6 1, 3) := by decide +kernel
theorem dX0_workOut_158 : decode cX0_workOut 158 = .ok (.goto (-60), 3) := by decide +kernel
theorem dX0_workOut_161 : decode cX0_workOut 161 = .ok (.return_, 1) := by decide +kernel
theorem dX0_lettersFor_0 : decode cX0_lettersFor 0 = .ok (.aload_n 0, 1) := by decide +kernel
theorem dX0_lettersFor_1 : decode cX0_lettersFor 1 = .ok (.iload_n 1, 1) := by decide +kernel
theorem dX0_lettersFor_2 : decode cX0_lettersFor 2 = .ok (.iconst 2, 1) := by decide +kernel
theorem dX0_lettersFor_3 : decode cX0_lettersFor 3 = .ok (.invokevirtual 57, 3) := by decide +kernel
theorem dX0_lettersFor_6 : decode cX0_lettersFor 6 = .ok (.iload_n 3, 1) := by decide +kernel
theorem dX0_lettersFor_7 : decode cX0_lettersFor 7 = .ok (.iadd, 1) := by decide +kernel
theorem dX0_lettersFor_8 : decode cX0_lettersFor 8 = .ok (.istore 5, 2) := by decide +kernel
theorem dX0_lettersFor_10 : decode cX0_lettersFor 10 = .ok (.aload_n 2, 1) := by decide +kernel
theorem dX0_lettersFor_11 : decode cX0_lettersFor 11 = .ok (.iconst 0, 1) := by decide +kernel
theorem dX0_lettersFor_12 : decode cX0_lettersFor 12 = .ok (.aload_n 0, 1) := by decide +kernel
theorem dX0_lettersFor_13 : decode cX0_lettersFor 13 = .ok (.iload_n 1, 1) := by decide +kernel
theorem dX0_lettersFor_14 : decode cX0_lettersFor 14 = .ok (.iconst 1, 1) := by decide +kernel
theorem dX0_lettersFor_15 : decode cX0_lettersFor 15 = .ok (.invokevirtual 57, 3) := by decide +kernel
theorem dX0_lettersFor_18 : decode cX0_lettersFor 18 = .ok (.invokevirtual 60, 3) := by decide +kernel
theorem dX0_lettersFor_21 : decode cX0_lettersFor 21 = .ok (.aload_n 2, 1) := by decide +kernel
theorem dX0_lettersFor_22 : decode cX0_lettersFor 22 = .ok (.iconst 1, 1) := by decide +kernel
theorem dX0_lettersFor_23 : decode cX0_lettersFor 23 = .ok (.aload_n 0, 1) := by decide +kernel
theorem dX0_lettersFor_24 : decode cX0_lettersFor 24 = .ok (.iload_n 1, 1) := by decide +kernel
theorem dX0_lettersFor_25 : decode cX0_lettersFor 25 = .ok (.iconst 0, 1) := by decide +kernel
theorem dX0_lettersFor_26 : decode cX0_lettersFor 26 = .ok (.invokevirtual 57, 3) := by decide +kernel
theorem dX0_lettersFor_29 : decode cX0_lettersFor 29 = .ok (.invokevirtual 60, 3) := by decide +kernel
theorem dX0_lettersFor_32 : decode cX0_lettersFor 32 = .ok (.iand, 1) := by decide +kernel
theorem dX0_lettersFor_33 : decode cX0_lettersFor 33 = .ok (.aload_n 2, 1) := by decide +kernel
theorem dX0_lettersFor_34 : decode cX0_lettersFor 34 = .ok (.iload 5, 2) := by decide +kernel
theorem dX0_lettersFor_36 : decode cX0_lettersFor 36 = .ok (.iload 4, 2) := by decide +kernel
theorem dX0_lettersFor_38 : decode cX0_lettersFor 38 = .ok (.iadd, 1) := by decide +kernel
theorem dX0_lettersFor_39 : decode cX0_lettersFor 39 = .ok (.invokevirtual 63, 3) := by decide +kernel
theorem dX0_lettersFor_42 : decode cX0_lettersFor 42 = .ok (.iand, 1) := by decide +kernel
theorem dX0_lettersFor_43 : decode cX0_lettersFor 43 = .ok (.aload_n 2, 1) := by decide +kernel
theorem dX0_lettersFor_44 : decode cX0_lettersFor 44 = .ok (.iload 5, 2) := by decide +kernel
theorem dX0_lettersFor_46 : decode cX0_lettersFor 46 = .ok (.iconst 1, 1) := by decide +kernel
theorem dX0_lettersFor_47 : decode cX0_lettersFor 47 = .ok (.isub, 1) := by decide +kernel
theorem dX0_lettersFor_48 : decode cX0_lettersFor 48 = .ok (.invokevirtual 63, 3) := by decide +kernel
theorem dX0_lettersFor_51 : decode cX0_lettersFor 51 = .ok (.iconst (-1), 1) := by decide +kernel
theorem dX0_lettersFor_52 : decode cX0_lettersFor 52 = .ok (.ixor, 1) := by decide +kernel
theorem dX0_lettersFor_53 : decode cX0_lettersFor 53 = .ok (.iand, 1) := by decide +kernel
theorem dX0_lettersFor_54 : decode cX0_lettersFor 54 = .ok (.ireturn, 1) := by decide +kernel
theorem dX0_fillTheirs_0 : decode cX0_fillTheirs 0 = .ok (.aload_n 0, 1) := by decide +kernel
theorem dX0_fillTheirs_1 : decode cX0_fillTheirs 1 = .ok (.getfield 15, 3) := by decide +kernel
theorem dX0_fillTheirs_4 : decode cX0_fillTheirs 4 = .ok (.iconst 0, 1) := by decide +kernel
theorem dX0_fillTheirs_5 : decode cX0_fillTheirs 5 = .ok (.iconst 0, 1) := by decide +kernel
theorem dX0_fillTheirs_6 : decode cX0_fillTheirs 6 = .ok (.iastore, 1) := by decide +kernel
theorem dX0_fillTheirs_7 : decode cX0_fillTheirs 7 = .ok (.iconst 0, 1) := by decide +kernel
theorem dX0_fillTheirs_8 : decode cX0_fillTheirs 8 = .ok (.istore_n 2, 1) := by decide +kernel
theorem dX0_fillTheirs_9 : decode cX0_fillTheirs 9 = .ok (.iload_n 2, 1) := by decide +kernel
theorem dX0_fillTheirs_10 : decode cX0_fillTheirs 10 = .ok (.iload_n 1, 1) := by decide +kernel
theorem dX0_fillTheirs_11 : decode cX0_fillTheirs 11 = .ok (.if_icmp .ge 61, 3) := by decide +kernel
theorem dX0_fillTheirs_14 : decode cX0_fillTheirs 14 = .ok (.iconst 1, 1) := by decide +kernel
theorem dX0_fillTheirs_15 : decode cX0_fillTheirs 15 = .ok (.iload_n 2, 1) := by decide +kernel
theorem dX0_fillTheirs_16 : decode cX0_fillTheirs 16 = .ok (.ishl, 1) := by decide +kernel
theorem dX0_fillTheirs_17 : decode cX0_fillTheirs 17 = .ok (.istore_n 3, 1) := by decide +kernel
theorem dX0_fillTheirs_18 : decode cX0_fillTheirs 18 = .ok (.iload_n 3, 1) := by decide +kernel
theorem dX0_fillTheirs_19 : decode cX0_fillTheirs 19 = .ok (.istore 4, 2) := by decide +kernel
theorem dX0_fillTheirs_21 : decode cX0_fillTheirs 21 = .ok (.iload 4, 2) := by decide +kernel
theorem dX0_fillTheirs_23 : decode cX0_fillTheirs 23 = .ok (.iconst 2, 1) := by decide +kernel
theorem dX0_fillTheirs_24 : decode cX0_fillTheirs 24 = .ok (.iload_n 3, 1) := by decide +kernel
theorem dX0_fillTheirs_25 : decode cX0_fillTheirs 25 = .ok (.imul, 1) := by decide +kernel
theorem dX0_fillTheirs_26 : decode cX0_fillTheirs 26 = .ok (.if_icmp .ge 40, 3) := by decide +kernel
theorem dX0_fillTheirs_29 : decode cX0_fillTheirs 29 = .ok (.iload 4, 2) := by decide +kernel
theorem dX0_fillTheirs_31 : decode cX0_fillTheirs 31 = .ok (.sipush 1024, 3) := by decide +kernel
theorem dX0_fillTheirs_34 : decode cX0_fillTheirs 34 = .ok (.if_icmp .ge 32, 3) := by decide +kernel
theorem dX0_fillTheirs_37 : decode cX0_fillTheirs 37 = .ok (.aload_n 0, 1) := by decide +kernel
theorem dX0_fillTheirs_38 : decode cX0_fillTheirs 38 = .ok (.getfield 15, 3) := by decide +kernel
theorem dX0_fillTheirs_41 : decode cX0_fillTheirs 41 = .ok (.iload 4, 2) := by decide +kernel
theorem dX0_fillTheirs_43 : decode cX0_fillTheirs 43 = .ok (.aload_n 0, 1) := by decide +kernel
theorem dX0_fillTheirs_44 : decode cX0_fillTheirs 44 = .ok (.getfield 15, 3) := by decide +kernel
theorem dX0_fillTheirs_47 : decode cX0_fillTheirs 47 = .ok (.iload 4, 2) := by decide +kernel
theorem dX0_fillTheirs_49 : decode cX0_fillTheirs 49 = .ok (.iload_n 3, 1) := by decide +kernel
theorem dX0_fillTheirs_50 : decode cX0_fillTheirs 50 = .ok (.isub, 1) := by decide +kernel
theorem dX0_fillTheirs_51 : decode cX0_fillTheirs 51 = .ok (.iaload, 1) := by decide +kernel
theorem dX0_fillTheirs_52 : decode cX0_fillTheirs 52 = .ok (.aload_n 0, 1) := by decide +kernel
theorem dX0_fillTheirs_53 : decode cX0_fillTheirs 53 = .ok (.getfield 9, 3) := by decide +kernel
theorem dX0_fillTheirs_56 : decode cX0_fillTheirs 56 = .ok (.iload_n 2, 1) := by decide +kernel
theorem dX0_fillTheirs_57 : decode cX0_fillTheirs 57 = .ok (.iaload, 1) := by decide +kernel
theorem dX0_fillTheirs_58 : decode cX0_fillTheirs 58 = .ok (.ior, 1) := by decide +kernel
theorem dX0_fillTheirs_59 : decode cX0_fillTheirs 59 = .ok (.iastore, 1) := by decide +kernel
theorem dX0_fillTheirs_60 : decode cX0_fillTheirs 60 = .ok (.iinc 4 1, 3) := by decide +kernel
theorem dX0_fillTheirs_63 : decode cX0_fillTheirs 63 = .ok (.goto (-42), 3) := by decide +kernel
theorem dX0_fillTheirs_66 : decode cX0_fillTheirs 66 = .ok (.iinc 2 1, 3) := by decide +kernel
theorem dX0_fillTheirs_69 : decode cX0_fillTheirs 69 = .ok (.goto (-60), 3) := by decide +kernel
theorem dX0_fillTheirs_72 : decode cX0_fillTheirs 72 = .ok (.return_, 1) := by decide +kernel
theorem dX0_excess_0 : decode cX0_excess 0 = .ok (.iload_n 1, 1) := by decide +kernel
theorem dX0_excess_1 : decode cX0_excess 1 = .ok (.invokestatic 52, 3) := by decide +kernel
theorem dX0_excess_4 : decode cX0_excess 4 = .ok (.aload_n 0, 1) := by decide +kernel
theorem dX0_excess_5 : decode cX0_excess 5 = .ok (.getfield 15, 3) := by decide +kernel
theorem dX0_excess_8 : decode cX0_excess 8 = .ok (.iload_n 1, 1) := by decide +kernel
theorem dX0_excess_9 : decode cX0_excess 9 = .ok (.aload_n 0, 1) := by decide +kernel
theorem dX0_excess_10 : decode cX0_excess 10 = .ok (.getfield 30, 3) := by decide +kernel
theorem dX0_excess_13 : decode cX0_excess 13 = .ok (.iand, 1) := by decide +kernel
theorem dX0_excess_14 : decode cX0_excess 14 = .ok (.iaload, 1) := by decide +kernel
theorem dX0_excess_15 : decode cX0_excess 15 = .ok (.invokestatic 52, 3) := by decide +kernel
theorem dX0_excess_18 : decode cX0_excess 18 = .ok (.isub, 1) := by decide +kernel
theorem dX0_excess_19 : decode cX0_excess 19 = .ok (.ireturn, 1) := by decide +kernel
theorem dX0_lacking_0 : decode cX0_lacking 0 = .ok (.aload_n 0, 1) := by decide +kernel
theorem dX0_lacking_1 : decode cX0_lacking 1 = .ok (.getfield 45, 3) := by decide +kernel
theorem dX0_lacking_4 : decode cX0_lacking 4 = .ok (.ireturn, 1) := by decide +kernel
theorem dX0_withoutReply_0 : decode cX0_withoutReply 0 = .ok (.aload_n 0, 1) := by decide +kernel
theorem dX0_withoutReply_1 : decode cX0_withoutReply 1 = .ok (.getfield 34, 3) := by decide +kernel
theorem dX0_withoutReply_4 : decode cX0_withoutReply 4 = .ok (.ireturn, 1) := by decide +kernel
theorem dX0_owedAmong_0 : decode cX0_owedAmong 0 = .ok (.aload_n 0, 1) := by decide +kernel
theorem dX0_owedAmong_1 : decode cX0_owedAmong 1 = .ok (.aload_n 0, 1) := by decide +kernel
theorem dX0_owedAmong_2 : decode cX0_owedAmong 2 = .ok (.getfield 45, 3) := by decide +kernel
theorem dX0_owedAmong_5 : decode cX0_owedAmong 5 = .ok (.iload_n 1, 1) := by decide +kernel
theorem dX0_owedAmong_6 : decode cX0_owedAmong 6 = .ok (.iand, 1) := by decide +kernel
theorem dX0_owedAmong_7 : decode cX0_owedAmong 7 = .ok (.invokevirtual 48, 3) := by decide +kernel
theorem dX0_owedAmong_10 : decode cX0_owedAmong 10 = .ok (.ireturn, 1) := by decide +kernel
theorem dX1_init_0 : decode cX1_init 0 = .ok (.aload_n 0, 1) := by decide +kernel
theorem dX1_init_1 : decode cX1_init 1 = .ok (.invokespecial 3, 3) := by decide +kernel
theorem dX1_init_4 : decode cX1_init 4 = .ok (.aload_n 0, 1) := by decide +kernel
theorem dX1_init_5 : decode cX1_init 5 = .ok (.bipush 60, 2) := by decide +kernel
theorem dX1_init_7 : decode cX1_init 7 = .ok (.newarray .int, 2) := by decide +kernel
theorem dX1_init_9 : decode cX1_init 9 = .ok (.putfield 9, 3) := by decide +kernel
theorem dX1_init_12 : decode cX1_init 12 = .ok (.aload_n 0, 1) := by decide +kernel
theorem dX1_init_13 : decode cX1_init 13 = .ok (.iconst (-1), 1) := by decide +kernel
theorem dX1_init_14 : decode cX1_init 14 = .ok (.putfield 15, 3) := by decide +kernel
theorem dX1_init_17 : decode cX1_init 17 = .ok (.aload_n 0, 1) := by decide +kernel
theorem dX1_init_18 : decode cX1_init 18 = .ok (.aload_n 1, 1) := by decide +kernel
theorem dX1_init_19 : decode cX1_init 19 = .ok (.putfield 19, 3) := by decide +kernel
theorem dX1_init_22 : decode cX1_init 22 = .ok (.return_, 1) := by decide +kernel
theorem dX1_howMany_0 : decode cX1_howMany 0 = .ok (.aload_n 0, 1) := by decide +kernel
theorem dX1_howMany_1 : decode cX1_howMany 1 = .ok (.getfield 22, 3) := by decide +kernel
theorem dX1_howMany_4 : decode cX1_howMany 4 = .ok (.ireturn, 1) := by decide +kernel
theorem dX1_faultPlace_0 : decode cX1_faultPlace 0 = .ok (.aload_n 0, 1) := by decide +kernel
theorem dX1_faultPlace_1 : decode cX1_faultPlace 1 = .ok (.getfield 15, 3) := by decide +kernel
theorem dX1_faultPlace_4 : decode cX1_faultPlace 4 = .ok (.iconst (-1), 1) := by decide +kernel
theorem dX1_faultPlace_5 : decode cX1_faultPlace 5 = .ok (.if_icmp .eq 8, 3) := by decide +kernel
theorem dX1_faultPlace_8 : decode cX1_faultPlace 8 = .ok (.aload_n 0, 1) := by decide +kernel
theorem dX1_faultPlace_9 : decode cX1_faultPlace 9 = .ok (.getfield 15, 3) := by decide +kernel
theorem dX1_faultPlace_12 : decode cX1_faultPlace 12 = .ok (.ireturn, 1) := by decide +kernel
theorem dX1_faultPlace_13 : decode cX1_faultPlace 13 = .ok (.aload_n 0, 1) := by decide +kernel
theorem dX1_faultPlace_14 : decode cX1_faultPlace 14 = .ok (.getfield 25, 3) := by decide +kernel
theorem dX1_faultPlace_17 : decode cX1_faultPlace 17 = .ok (.ifCond .eq 15, 3) := by decide +kernel
theorem dX1_faultPlace_20 : decode cX1_faultPlace 20 = .ok (.aload_n 0, 1) := by decide +kernel
theorem dX1_faultPlace_21 : decode cX1_faultPlace 21 = .ok (.getfield 28, 3) := by decide +kernel
theorem dX1_faultPlace_24 : decode cX1_faultPlace 24 = .ok (.aload_n 0, 1) := by decide +kernel
theorem dX1_faultPlace_25 : decode cX1_faultPlace 25 = .ok (.getfield 19, 3) := by decide +kernel
theorem dX1_faultPlace_28 : decode cX1_faultPlace 28 = .ok (.arraylength, 1) := by decide +kernel
theorem dX1_faultPlace_29 : decode cX1_faultPlace 29 = .ok (.if_icmp .ne 7, 3) := by decide +kernel
theorem dX1_faultPlace_32 : decode cX1_faultPlace 32 = .ok (.iconst (-1), 1) := by decide +kernel
theorem dX1_faultPlace_33 : decode cX1_faultPlace 33 = .ok (.goto 7, 3) := by decide +kernel
theorem dX1_faultPlace_36 : decode cX1_faultPlace 36 = .ok (.aload_n 0, 1) := by decide +kernel
theorem dX1_faultPlace_37 : decode cX1_faultPlace 37 = .ok (.getfield 25, 3) := by decide +kernel
theorem dX1_faultPlace_40 : decode cX1_faultPlace 40 = .ok (.ireturn, 1) := by decide +kernel
theorem dX1_part_0 : decode cX1_part 0 = .ok (.iload_n 1, 1) := by decide +kernel
theorem dX1_part_1 : decode cX1_part 1 = .ok (.ifCond .lt 31, 3) := by decide +kernel
theorem dX1_part_4 : decode cX1_part 4 = .ok (.iload_n 1, 1) := by decide +kernel
theorem dX1_part_5 : decode cX1_part 5 = .ok (.aload_n 0, 1) := by decide +kernel
theorem dX1_part_6 : decode cX1_part 6 = .ok (.getfield 22, 3) := by decide +kernel
theorem dX1_part_9 : decode cX1_part 9 = .ok (.if_icmp .ge 23, 3) := by decide +kernel
theorem dX1_part_12 : decode cX1_part 12 = .ok (.iload_n 1, 1) := by decide +kernel
theorem dX1_part_13 : decode cX1_part 13 = .ok (.bipush 10, 2) := by decide +kernel
theorem dX1_part_15 : decode cX1_part 15 = .ok (.if_icmp .ge 17, 3) := by decide +kernel
theorem dX1_part_18 : decode cX1_part 18 = .ok (.iload_n 2, 1) := by decide +kernel
theorem dX1_part_19 : decode cX1_part 19 = .ok (.ifCond .lt 13, 3) := by decide +kernel
theorem dX1_part_22 : decode cX1_part 22 = .ok (.iload_n 2, 1) := by decide +kernel
theorem dX1_part_23 : decode cX1_part 23 = .ok (.bipush 6, 2) := by decide +kernel
theorem dX1_part_25 : decode cX1_part 25 = .ok (.if_icmp .ge 7, 3) := by decide +kernel
theorem dX1_part_28 : decode cX1_part 28 = .ok (.iconst 1, 1) := by decide +kernel
theorem dX1_part_29 : decode cX1_part 29 = .ok (.goto 4, 3) := by decide +kernel
theorem dX1_part_32 : decode cX1_part 32 = .ok (.iconst 0, 1) := by decide +kernel
theorem dX1_part_33 : decode cX1_part 33 = .ok (.istore_n 3, 1) := by decide +kernel
theorem dX1_part_34 : decode cX1_part 34 = .ok (.iload_n 3, 1) := by decide +kernel
theorem dX1_part_35 : decode cX1_part 35 = .ok (.ifCond .eq 17, 3) := by decide +kernel
theorem dX1_part_38 : decode cX1_part 38 = .ok (.aload_n 0, 1) := by decide +kernel
theorem dX1_part_39 : decode cX1_part 39 = .ok (.getfield 9, 3) := by decide +kernel
theorem dX1_part_42 : decode cX1_part 42 = .ok (.iload_n 1, 1) := by decide +kernel
theorem dX1_part_43 : decode cX1_part 43 = .ok (.bipush 6, 2) := by decide +kernel
theorem dX1_part_45 : decode cX1_part 45 = .ok (.imul, 1) := by decide +kernel
theorem dX1_part_46 : decode cX1_part 46 = .ok (.iload_n 2, 1) := by decide +kernel
theorem dX1_part_47 : decode cX1_part 47 = .ok (.iadd, 1) := by decide +kernel
theorem dX1_part_48 : decode cX1_part 48 = .ok (.iaload, 1) := by decide +kernel
theorem dX1_part_49 : decode cX1_part 49 = .ok (.goto 4, 3) := by decide +kernel
theorem dX1_part_52 : decode cX1_part 52 = .ok (.iconst (-1), 1) := by decide +kernel
theorem dX1_part_53 : decode cX1_part 53 = .ok (.ireturn, 1) := by decide +kernel
theorem dX1_with_0 : decode cX1_with 0 = .ok (.iconst 0, 1) := by decide +kernel
theorem dX1_with_1 : decode cX1_with 1 = .ok (.istore_n 3, 1) := by decide +kernel
theorem dX1_with_2 : decode cX1_with 2 = .ok (.iconst 0, 1) := by decide +kernel
theorem dX1_with_3 : decode cX1_with 3 = .ok (.istore 4, 2) := by decide +kernel
theorem dX1_with_5 : decode cX1_with 5 = .ok (.iload 4, 2) := by decide +kernel
theorem dX1_with_7 : decode cX1_with 7 = .ok (.aload_n 0, 1) := by decide +kernel
theorem dX1_with_8 : decode cX1_with 8 = .ok (.getfield 22, 3) := by decide +kernel
theorem dX1_with_11 : decode cX1_with 11 = .ok (.if_icmp .ge 49, 3) := by decide +kernel
theorem dX1_with_14 : decode cX1_with 14 = .ok (.iload 4, 2) := by decide +kernel
theorem dX1_with_16 : decode cX1_with 16 = .ok (.bipush 10, 2) := by decide +kernel
theorem dX1_with_18 : decode cX1_with 18 = .ok (.if_icmp .ge 42, 3) := by decide +kernel
theorem dX1_with_21 : decode cX1_with 21 = .ok (.iload_n 1, 1) := by decide +kernel
theorem dX1_with_22 : decode cX1_with 22 = .ok (.ifCond .lt 32, 3) := by decide +kernel
theorem dX1_with_25 : decode cX1_with 25 = .ok (.iload_n 1, 1) := by decide +kernel
theorem dX1_with_26 : decode cX1_with 26 = .ok (.bipush 6, 2) := by decide +kernel
theorem dX1_with_28 : decode cX1_with 28 = .ok (.if_icmp .ge 26, 3) := by decide +kernel
theorem dX1_with_31 : decode cX1_with 31 = .ok (.aload_n 0, 1) := by decide +kernel
theorem dX1_with_32 : decode cX1_with 32 = .ok (.getfield 9, 3) := by decide +kernel
theorem dX1_with_35 : decode cX1_with 35 = .ok (.iload 4, 2) := by decide +kernel
theorem dX1_with_37 : decode cX1_with 37 = .ok (.bipush 6, 2) := by decide +kernel
theorem dX1_with_39 : decode cX1_with 39 = .ok (.imul, 1) := by decide +kernel
theorem dX1_with_40 : decode cX1_with 40 = .ok (.iload_n 1, 1) := by decide +kernel
theorem dX1_with_41 : decode cX1_with 41 = .ok (.iadd, 1) := by decide +kernel
theorem dX1_with_42 : decode cX1_with 42 = .ok (.iaload, 1) := by decide +kernel
theorem dX1_with_43 : decode cX1_with 43 = .ok (.iload_n 2, 1) := by decide +kernel
theorem dX1_with_44 : decode cX1_with 44 = .ok (.if_icmp .ne 10, 3) := by decide +kernel
theorem dX1_with_47 : decode cX1_with 47 = .ok (.iload_n 3, 1) := by decide +kernel
theorem dX1_with_48 : decode cX1_with 48 = .ok (.iconst 1, 1) := by decide +kernel
theorem dX1_with_49 : decode cX1_with 49 = .ok (.iload 4, 2) := by decide +kernel
theorem dX1_with_51 : decode cX1_with 51 = .ok (.ishl, 1) := by decide +kernel
theorem dX1_with_52 : decode cX1_with 52 = .ok (.ior, 1) := by decide +kernel
theorem dX1_with_53 : decode cX1_with 53 = .ok (.istore_n 3, 1) := by decide +kernel
theorem dX1_with_54 : decode cX1_with 54 = .ok (.iinc 4 1, 3) := by decide +kernel
theorem dX1_with_57 : decode cX1_with 57 = .ok (.goto (-52), 3) := by decide +kernel
theorem dX1_with_60 : decode cX1_with 60 = .ok (.iload_n 3, 1) := by decide +kernel
theorem dX1_with_61 : decode cX1_with 61 = .ok (.ireturn, 1) := by decide +kernel
theorem dX1_byDay_0 : decode cX1_byDay 0 = .ok (.iconst 0, 1) := by decide +kernel
theorem dX1_byDay_1 : decode cX1_byDay 1 = .ok (.istore_n 2, 1) := by decide +kernel
theorem dX1_byDay_2 : decode cX1_byDay 2 = .ok (.iconst 0, 1) := by decide +kernel
theorem dX1_byDay_3 : decode cX1_byDay 3 = .ok (.istore_n 3, 1) := by decide +kernel
theorem dX1_byDay_4 : decode cX1_byDay 4 = .ok (.iload_n 3, 1) := by decide +kernel
theorem dX1_byDay_5 : decode cX1_byDay 5 = .ok (.aload_n 0, 1) := by decide +kernel
theorem dX1_byDay_6 : decode cX1_byDay 6 = .ok (.getfield 22, 3) := by decide +kernel
theorem dX1_byDay_9 : decode cX1_byDay 9 = .ok (.if_icmp .ge 36, 3) := by decide +kernel
theorem dX1_byDay_12 : decode cX1_byDay 12 = .ok (.iload_n 3, 1) := by decide +kernel
theorem dX1_byDay_13 : decode cX1_byDay 13 = .ok (.bipush 10, 2) := by decide +kernel
theorem dX1_byDay_15 : decode cX1_byDay 15 = .ok (.if_icmp .ge 30, 3) := by decide +kernel
theorem dX1_byDay_18 : decode cX1_byDay 18 = .ok (.aload_n 0, 1) := by decide +kernel
theorem dX1_byDay_19 : decode cX1_byDay 19 = .ok (.getfield 9, 3) := by decide +kernel
theorem dX1_byDay_22 : decode cX1_byDay 22 = .ok (.iload_n 3, 1) := by decide +kernel
theorem dX1_byDay_23 : decode cX1_byDay 23 = .ok (.bipush 6, 2) := by decide +kernel
theorem dX1_byDay_25 : decode cX1_byDay 25 = .ok (.imul, 1) := by decide +kernel
theorem dX1_byDay_26 : decode cX1_byDay 26 = .ok (.iconst 2, 1) := by decide +kernel
theorem dX1_byDay_27 : decode cX1_byDay 27 = .ok (.iadd, 1) := by decide +kernel
theorem dX1_byDay_28 : decode cX1_byDay 28 = .ok (.iaload, 1) := by decide +kernel
theorem dX1_byDay_29 : decode cX1_byDay 29 = .ok (.iload_n 1, 1) := by decide +kernel
theorem dX1_byDay_30 : decode cX1_byDay 30 = .ok (.if_icmp .gt 9, 3) := by decide +kernel
theorem dX1_byDay_33 : decode cX1_byDay 33 = .ok (.iload_n 2, 1) := by decide +kernel
theorem dX1_byDay_34 : decode cX1_byDay 34 = .ok (.iconst 1, 1) := by decide +kernel
theorem dX1_byDay_35 : decode cX1_byDay 35 = .ok (.iload_n 3, 1) := by decide +kernel
theorem dX1_byDay_36 : decode cX1_byDay 36 = .ok (.ishl, 1) := by decide +kernel
theorem dX1_byDay_37 : decode cX1_byDay 37 = .ok (.ior, 1) := by decide +kernel
theorem dX1_byDay_38 : decode cX1_byDay 38 = .ok (.istore_n 2, 1) := by decide +kernel
theorem dX1_byDay_39 : decode cX1_byDay 39 = .ok (.iinc 3 1, 3) := by decide +kernel
theorem dX1_byDay_42 : decode cX1_byDay 42 = .ok (.goto (-38), 3) := by decide +kernel
theorem dX1_byDay_45 : decode cX1_byDay 45 = .ok (.iload_n 2, 1) := by decide +kernel
theorem dX1_byDay_46 : decode cX1_byDay 46 = .ok (.ireturn, 1) := by decide +kernel
theorem dX1_begin_0 : decode cX1_begin 0 = .ok (.aload_n 0, 1) := by decide +kernel
theorem dX1_begin_1 : decode cX1_begin 1 = .ok (.iconst 0, 1) := by decide +kernel
theorem dX1_begin_2 : decode cX1_begin 2 = .ok (.putfield 25, 3) := by decide +kernel
theorem dX1_begin_5 : decode cX1_begin 5 = .ok (.aload_n 0, 1) := by decide +kernel
theorem dX1_begin_6 : decode cX1_begin 6 = .ok (.iconst 0, 1) := by decide +kernel
theorem dX1_begin_7 : decode cX1_begin 7 = .ok (.putfield 31, 3) := by decide +kernel
theorem dX1_begin_10 : decode cX1_begin 10 = .ok (.aload_n 0, 1) := by decide +kernel
theorem dX1_begin_11 : decode cX1_begin 11 = .ok (.iconst 0, 1) := by decide +kernel
theorem dX1_begin_12 : decode cX1_begin 12 = .ok (.putfield 28, 3) := by decide +kernel
theorem dX1_begin_15 : decode cX1_begin 15 = .ok (.aload_n 0, 1) := by decide +kernel
theorem dX1_begin_16 : decode cX1_begin 16 = .ok (.iconst 0, 1) := by decide +kernel
theorem dX1_begin_17 : decode cX1_begin 17 = .ok (.putfield 22, 3) := by decide +kernel
theorem dX1_begin_20 : decode cX1_begin 20 = .ok (.aload_n 0, 1) := by decide +kernel
theorem dX1_begin_21 : decode cX1_begin 21 = .ok (.iconst (-1), 1) := by decide +kernel
theorem dX1_begin_22 : decode cX1_begin 22 = .ok (.putfield 15, 3) := by decide +kernel
theorem dX1_begin_25 : decode cX1_begin 25 = .ok (.return_, 1) := by decide +kernel
theorem dX1_readAgain_0 : decode cX1_readAgain 0 = .ok (.aload_n 0, 1) := by decide +kernel
theorem dX1_readAgain_1 : decode cX1_readAgain 1 = .ok (.invokevirtual 34, 3) := by decide +kernel
theorem dX1_readAgain_4 : decode cX1_readAgain 4 = .ok (.iconst 0, 1) := by decide +kernel
theorem dX1_readAgain_5 : decode cX1_readAgain 5 = .ok (.istore_n 2, 1) := by decide +kernel
theorem dX1_readAgain_6 : decode cX1_readAgain 6 = .ok (.iload_n 2, 1) := by decide +kernel
theorem dX1_readAgain_7 : decode cX1_readAgain 7 = .ok (.aload_n 1, 1) := by decide +kernel
theorem dX1_readAgain_8 : decode cX1_readAgain 8 = .ok (.invokevirtual 37, 3) := by decide +kernel
theorem dX1_readAgain_11 : decode cX1_readAgain 11 = .ok (.if_icmp .ge 18, 3) := by decide +kernel
theorem dX1_readAgain_14 : decode cX1_readAgain 14 = .ok (.aload_n 0, 1) := by decide +kernel
theorem dX1_readAgain_15 : decode cX1_readAgain 15 = .ok (.aload_n 1, 1) := by decide +kernel
theorem dX1_readAgain_16 : decode cX1_readAgain 16 = .ok (.iload_n 2, 1) := by decide +kernel
theorem dX1_readAgain_17 : decode cX1_readAgain 17 = .ok (.invokevirtual 43, 3) := by decide +kernel
theorem dX1_readAgain_20 : decode cX1_readAgain 20 = .ok (.invokevirtual 47, 3) := by decide +kernel
theorem dX1_readAgain_23 : decode cX1_readAgain 23 = .ok (.iinc 2 1, 3) := by decide +kernel
theorem dX1_readAgain_26 : decode cX1_readAgain 26 = .ok (.goto (-20), 3) := by decide +kernel
theorem dX1_readAgain_29 : decode cX1_readAgain 29 = .ok (.return_, 1) := by decide +kernel
theorem dX1_take_0 : decode cX1_take 0 = .ok (.aload_n 0, 1) := by decide +kernel
theorem dX1_take_1 : decode cX1_take 1 = .ok (.getfield 15, 3) := by decide +kernel
theorem dX1_take_4 : decode cX1_take 4 = .ok (.iconst (-1), 1) := by decide +kernel
theorem dX1_take_5 : decode cX1_take 5 = .ok (.if_icmp .ne 19, 3) := by decide +kernel
theorem dX1_take_8 : decode cX1_take 8 = .ok (.aload_n 0, 1) := by decide +kernel
theorem dX1_take_9 : decode cX1_take 9 = .ok (.iload_n 1, 1) := by decide +kernel
theorem dX1_take_10 : decode cX1_take 10 = .ok (.invokevirtual 51, 3) := by decide +kernel
theorem dX1_take_13 : decode cX1_take 13 = .ok (.ifCond .ne 11, 3) := by decide +kernel
theorem dX1_take_16 : decode cX1_take 16 = .ok (.aload_n 0, 1) := by decide +kernel
theorem dX1_take_17 : decode cX1_take 17 = .ok (.aload_n 0, 1) := by decide +kernel
theorem dX1_take_18 : decode cX1_take 18 = .ok (.getfield 25, 3) := by decide +kernel
theorem dX1_take_21 : decode cX1_take 21 = .ok (.putfield 15, 3) := by decide +kernel
theorem dX1_take_24 : decode cX1_take 24 = .ok (.aload_n 0, 1) := by decide +kernel
theorem dX1_take_25 : decode cX1_take 25 = .ok (.dup, 1) := by decide +kernel
theorem dX1_take_26 : decode cX1_take 26 = .ok (.getfield 25, 3) := by decide +kernel
theorem dX1_take_29 : decode cX1_take 29 = .ok (.iconst 1, 1) := by decide +kernel
theorem dX1_take_30 : decode cX1_take 30 = .ok (.iadd, 1) := by decide +kernel
theorem dX1_take_31 : decode cX1_take 31 = .ok (.putfield 25, 3) := by decide +kernel
theorem dX1_take_34 : decode cX1_take 34 = .ok (.aload_n 0, 1) := by decide +kernel
theorem dX1_take_35 : decode cX1_take 35 = .ok (.getfield 15, 3) := by decide +kernel
theorem dX1_take_38 : decode cX1_take 38 = .ok (.iconst (-1), 1) := by decide +kernel
theorem dX1_take_39 : decode cX1_take 39 = .ok (.if_icmp .ne 19, 3) := by decide +kernel
theorem dX1_take_42 : decode cX1_take 42 = .ok (.aload_n 0, 1) := by decide +kernel
theorem dX1_take_43 : decode cX1_take 43 = .ok (.getfield 28, 3) := by decide +kernel
theorem dX1_take_46 : decode cX1_take 46 = .ok (.aload_n 0, 1) := by decide +kernel
theorem dX1_take_47 : decode cX1_take 47 = .ok (.getfield 19, 3) := by decide +kernel
theorem dX1_take_50 : decode cX1_take 50 = .ok (.arraylength, 1) := by decide +kernel
theorem dX1_take_51 : decode cX1_take 51 = .ok (.if_icmp .ne 7, 3) := by decide +kernel
theorem dX1_take_54 : decode cX1_take 54 = .ok (.iconst 1, 1) := by decide +kernel
theorem dX1_take_55 : decode cX1_take 55 = .ok (.goto 4, 3) := by decide +kernel
theorem dX1_take_58 : decode cX1_take 58 = .ok (.iconst 0, 1) := by decide +kernel
theorem dX1_take_59 : decode cX1_take 59 = .ok (.istore_n 2, 1) := by decide +kernel
theorem dX1_take_60 : decode cX1_take 60 = .ok (.aload_n 0, 1) := by decide +kernel
theorem dX1_take_61 : decode cX1_take 61 = .ok (.iload_n 2, 1) := by decide +kernel
theorem dX1_take_62 : decode cX1_take 62 = .ok (.ifCond .eq 12, 3) := by decide +kernel
theorem dX1_take_65 : decode cX1_take 65 = .ok (.aload_n 0, 1) := by decide +kernel
theorem dX1_take_66 : decode cX1_take 66 = .ok (.getfield 31, 3) := by decide +kernel
theorem dX1_take_69 : decode cX1_take 69 = .ok (.iconst 1, 1) := by decide +kernel
theorem dX1_take_70 : decode cX1_take 70 = .ok (.iadd, 1) := by decide +kernel
theorem dX1_take_71 : decode cX1_take 71 = .ok (.goto 4, 3) := by decide +kernel
theorem dX1_take_74 : decode cX1_take 74 = .ok (.iconst 0, 1) := by decide +kernel
theorem dX1_take_75 : decode cX1_take 75 = .ok (.putfield 22, 3) := by decide +kernel
theorem dX1_take_78 : decode cX1_take 78 = .ok (.return_, 1) := by decide +kernel
theorem dX1_goesOnWith_0 : decode cX1_goesOnWith 0 = .ok (.aload_n 0, 1) := by decide +kernel
theorem dX1_goesOnWith_1 : decode cX1_goesOnWith 1 = .ok (.getfield 28, 3) := by decide +kernel
theorem dX1_goesOnWith_4 : decode cX1_goesOnWith 4 = .ok (.aload_n 0, 1) := by decide +kernel
theorem dX1_goesOnWith_5 : decode cX1_goesOnWith 5 = .ok (.getfield 19, 3) := by decide +kernel
theorem dX1_goesOnWith_8 : decode cX1_goesOnWith 8 = .ok (.arraylength, 1) := by decide +kernel
theorem dX1_goesOnWith_9 : decode cX1_goesOnWith 9 = .ok (.if_icmp .lt 30, 3) := by decide +kernel
theorem dX1_goesOnWith_12 : decode cX1_goesOnWith 12 = .ok (.aload_n 0, 1) := by decide +kernel
theorem dX1_goesOnWith_13 : decode cX1_goesOnWith 13 = .ok (.dup, 1) := by decide +kernel
theorem dX1_goesOnWith_14 : decode cX1_goesOnWith 14 = .ok (.getfield 31, 3) := by decide +kernel
theorem dX1_goesOnWith_17 : decode cX1_goesOnWith 17 = .ok (.iconst 1, 1) := by decide +kernel
theorem dX1_goesOnWith_18 : decode cX1_goesOnWith 18 = .ok (.iadd, 1) := by decide +kernel
theorem dX1_goesOnWith_19 : decode cX1_goesOnWith 19 = .ok (.putfield 31, 3) := by decide +kernel
theorem dX1_goesOnWith_22 : decode cX1_goesOnWith 22 = .ok (.aload_n 0, 1) := by decide +kernel
theorem dX1_goesOnWith_23 : decode cX1_goesOnWith 23 = .ok (.iconst 0, 1) := by decide +kernel
theorem dX1_goesOnWith_24 : decode cX1_goesOnWith 24 = .ok (.putfield 28, 3) := by decide +kernel
theorem dX1_goesOnWith_27 : decode cX1_goesOnWith 27 = .ok (.iload_n 1, 1) := by decide +kernel
theorem dX1_goesOnWith_28 : decode cX1_goesOnWith 28 = .ok (.bipush 59, 2) := by decide +kernel
theorem dX1_goesOnWith_30 : decode cX1_goesOnWith 30 = .ok (.if_icmp .ne 7, 3) := by decide +kernel
theorem dX1_goesOnWith_33 : decode cX1_goesOnWith 33 = .ok (.iconst 1, 1) := by decide +kernel
theorem dX1_goesOnWith_34 : decode cX1_goesOnWith 34 = .ok (.goto 4, 3) := by decide +kernel
theorem dX1_goesOnWith_37 : decode cX1_goesOnWith 37 = .ok (.iconst 0, 1) := by decide +kernel
theorem dX1_goesOnWith_38 : decode cX1_goesOnWith 38 = .ok (.ireturn, 1) := by decide +kernel
theorem dX1_goesOnWith_39 : decode cX1_goesOnWith 39 = .ok (.aload_n 0, 1) := by decide +kernel
theorem dX1_goesOnWith_40 : decode cX1_goesOnWith 40 = .ok (.getfield 28, 3) := by decide +kernel
theorem dX1_goesOnWith_43 : decode cX1_goesOnWith 43 = .ok (.ifCond .lt 19, 3) := by decide +kernel
theorem dX1_goesOnWith_46 : decode cX1_goesOnWith 46 = .ok (.aload_n 0, 1) := by decide +kernel
theorem dX1_goesOnWith_47 : decode cX1_goesOnWith 47 = .ok (.getfield 31, 3) := by decide +kernel
theorem dX1_goesOnWith_50 : decode cX1_goesOnWith 50 = .ok (.ifCond .lt 12, 3) := by decide +kernel
theorem dX1_goesOnWith_53 : decode cX1_goesOnWith 53 = .ok (.aload_n 0, 1) := by decide +kernel
theorem dX1_goesOnWith_54 : decode cX1_goesOnWith 54 = .ok (.getfield 31, 3) := by decide +kernel
theorem dX1_goesOnWith_57 : decode cX1_goesOnWith 57 = .ok (.bipush 10, 2) := by decide +kernel
theorem dX1_goesOnWith_59 : decode cX1_goesOnWith 59 = .ok (.if_icmp .lt 5, 3) := by decide +kernel
theorem dX1_goesOnWith_62 : decode cX1_goesOnWith 62 = .ok (.iconst 0, 1) := by decide +kernel
theorem dX1_goesOnWith_63 : decode cX1_goesOnWith 63 = .ok (.ireturn, 1) := by decide +kernel
theorem dX1_goesOnWith_64 : decode cX1_goesOnWith 64 = .ok (.aload_n 0, 1) := by decide +kernel
theorem dX1_goesOnWith_65 : decode cX1_goesOnWith 65 = .ok (.getfield 19, 3) := by decide +kernel
theorem dX1_goesOnWith_68 : decode cX1_goesOnWith 68 = .ok (.aload_n 0, 1) := by decide +kernel
theorem dX1_goesOnWith_69 : decode cX1_goesOnWith 69 = .ok (.getfield 28, 3) := by decide +kernel
theorem dX1_goesOnWith_72 : decode cX1_goesOnWith 72 = .ok (.iaload, 1) := by decide +kernel
theorem dX1_goesOnWith_73 : decode cX1_goesOnWith 73 = .ok (.istore_n 2, 1) := by decide +kernel
theorem dX1_goesOnWith_74 : decode cX1_goesOnWith 74 = .ok (.aload_n 0, 1) := by decide +kernel
theorem dX1_goesOnWith_75 : decode cX1_goesOnWith 75 = .ok (.iload_n 2, 1) := by decide +kernel
theorem dX1_goesOnWith_76 : decode cX1_goesOnWith 76 = .ok (.iload_n 1, 1) := by decide +kernel
theorem dX1_goesOnWith_77 : decode cX1_goesOnWith 77 = .ok (.invokevirtual 55, 3) := by decide +kernel
theorem dX1_goesOnWith_80 : decode cX1_goesOnWith 80 = .ok (.istore_n 3, 1) := by decide +kernel
theorem dX1_goesOnWith_81 : decode cX1_goesOnWith 81 = .ok (.iload_n 3, 1) := by decide +kernel
theorem dX1_goesOnWith_82 : decode cX1_goesOnWith 82 = .ok (.iconst (-1), 1) := by decide +kernel
theorem dX1_goesOnWith_83 : decode cX1_goesOnWith 83 = .ok (.if_icmp .ne 5, 3) := by decide +kernel
theorem dX1_goesOnWith_86 : decode cX1_goesOnWith 86 = .ok (.iconst 0, 1) := by decide +kernel
theorem dX1_goesOnWith_87 : decode cX1_goesOnWith 87 = .ok (.ireturn, 1) := by decide +kernel
theorem dX1_goesOnWith_88 : decode cX1_goesOnWith 88 = .ok (.aload_n 0, 1) := by decide +kernel
theorem dX1_goesOnWith_89 : decode cX1_goesOnWith 89 = .ok (.iload_n 2, 1) := by decide +kernel
theorem dX1_goesOnWith_90 : decode cX1_goesOnWith 90 = .ok (.iload_n 3, 1) := by decide +kernel
theorem dX1_goesOnWith_91 : decode cX1_goesOnWith 91 = .ok (.invokevirtual 59, 3) := by decide +kernel
theorem dX1_goesOnWith_94 : decode cX1_goesOnWith 94 = .ok (.aload_n 0, 1) := by decide +kernel
theorem dX1_goesOnWith_95 : decode cX1_goesOnWith 95 = .ok (.dup, 1) := by decide +kernel
theorem dX1_goesOnWith_96 : decode cX1_goesOnWith 96 = .ok (.getfield 28, 3) := by decide +kernel
theorem dX1_goesOnWith_99 : decode cX1_goesOnWith 99 = .ok (.iconst 1, 1) := by decide +kernel
theorem dX1_goesOnWith_100 : decode cX1_goesOnWith 100 = .ok (.iadd, 1) := by decide +kernel
theorem dX1_goesOnWith_101 : decode cX1_goesOnWith 101 = .ok (.putfield 28, 3) := by decide +kernel
theorem dX1_goesOnWith_104 : decode cX1_goesOnWith 104 = .ok (.iload_n 2, 1) := by decide +kernel
theorem dX1_goesOnWith_105 : decode cX1_goesOnWith 105 = .ok (.iconst 4, 1) := by decide +kernel
theorem dX1_goesOnWith_106 : decode cX1_goesOnWith 106 = .ok (.if_icmp .ne 23, 3) := by decide +kernel
theorem dX1_goesOnWith_109 : decode cX1_goesOnWith 109 = .ok (.iload_n 3, 1) := by decide +kernel
theorem dX1_goesOnWith_110 : decode cX1_goesOnWith 110 = .ok (.iconst 2, 1) := by decide +kernel
theorem dX1_goesOnWith_111 : decode cX1_goesOnWith 111 = .ok (.if_icmp .ge 18, 3) := by decide +kernel
theorem dX1_goesOnWith_114 : decode cX1_goesOnWith 114 = .ok (.aload_n 0, 1) := by decide +kernel
theorem dX1_goesOnWith_115 : decode cX1_goesOnWith 115 = .ok (.iconst 5, 1) := by decide +kernel
theorem dX1_goesOnWith_116 : decode cX1_goesOnWith 116 = .ok (.iconst (-1), 1) := by decide +kernel
theorem dX1_goesOnWith_117 : decode cX1_goesOnWith 117 = .ok (.invokevirtual 59, 3) := by decide +kernel
theorem dX1_goesOnWith_120 : decode cX1_goesOnWith 120 = .ok (.aload_n 0, 1) := by decide +kernel
theorem dX1_goesOnWith_121 : decode cX1_goesOnWith 121 = .ok (.aload_n 0, 1) := by decide +kernel
theorem dX1_goesOnWith_122 : decode cX1_goesOnWith 122 = .ok (.getfield 19, 3) := by decide +kernel
theorem dX1_goesOnWith_125 : decode cX1_goesOnWith 125 = .ok (.arraylength, 1) := by decide +kernel
theorem dX1_goesOnWith_126 : decode cX1_goesOnWith 126 = .ok (.putfield 28, 3) := by decide +kernel
theorem dX1_goesOnWith_129 : decode cX1_goesOnWith 129 = .ok (.iconst 1, 1) := by decide +kernel
theorem dX1_goesOnWith_130 : decode cX1_goesOnWith 130 = .ok (.ireturn, 1) := by decide +kernel
theorem dX1_valueOf_0 : decode cX1_valueOf 0 = .ok (.iload_n 1, 1) := by decide +kernel
theorem dX1_valueOf_1 : decode cX1_valueOf 1 = .ok (.tableswitch 78 0 4 #[35, 41, 78, 62, 70], 35) := by decide +kernel
theorem dX1_valueOf_36 : decode cX1_valueOf 36 = .ok (.iload_n 2, 1) := by decide +kernel
theorem dX1_valueOf_37 : decode cX1_valueOf 37 = .ok (.iconst 5, 1) := by decide +kernel
theorem dX1_valueOf_38 : decode cX1_valueOf 38 = .ok (.invokestatic 63, 3) := by decide +kernel
theorem dX1_valueOf_41 : decode cX1_valueOf 41 = .ok (.ireturn, 1) := by decide +kernel
theorem dX1_valueOf_42 : decode cX1_valueOf 42 = .ok (.iload_n 2, 1) := by decide +kernel
theorem dX1_valueOf_43 : decode cX1_valueOf 43 = .ok (.bipush 48, 2) := by decide +kernel
theorem dX1_valueOf_45 : decode cX1_valueOf 45 = .ok (.isub, 1) := by decide +kernel
theorem dX1_valueOf_46 : decode cX1_valueOf 46 = .ok (.aload_n 0, 1) := by decide +kernel
theorem dX1_valueOf_47 : decode cX1_valueOf 47 = .ok (.getfield 66, 3) := by decide +kernel
theorem dX1_valueOf_50 : decode cX1_valueOf 50 = .ok (.if_icmp .ne 7, 3) := by decide +kernel
theorem dX1_valueOf_53 : decode cX1_valueOf 53 = .ok (.iconst (-1), 1) := by decide +kernel
theorem dX1_valueOf_54 : decode cX1_valueOf 54 = .ok (.goto 8, 3) := by decide +kernel
theorem dX1_valueOf_57 : decode cX1_valueOf 57 = .ok (.iload_n 2, 1) := by decide +kernel
theorem dX1_valueOf_58 : decode cX1_valueOf 58 = .ok (.iconst 5, 1) := by decide +kernel
theorem dX1_valueOf_59 : decode cX1_valueOf 59 = .ok (.invokestatic 63, 3) := by decide +kernel
theorem dX1_valueOf_62 : decode cX1_valueOf 62 = .ok (.ireturn, 1) := by decide +kernel
theorem dX1_valueOf_63 : decode cX1_valueOf 63 = .ok (.ldc 69, 2) := by decide +kernel
theorem dX1_valueOf_65 : decode cX1_valueOf 65 = .ok (.iload_n 2, 1) := by decide +kernel
theorem dX1_valueOf_66 : decode cX1_valueOf 66 = .ok (.i2c, 1) := by decide +kernel
theorem dX1_valueOf_67 : decode cX1_valueOf 67 = .ok (.invokevirtual 71, 3) := by decide +kernel
theorem dX1_valueOf_70 : decode cX1_valueOf 70 = .ok (.ireturn, 1) := by decide +kernel
theorem dX1_valueOf_71 : decode cX1_valueOf 71 = .ok (.ldc 76, 2) := by decide +kernel
theorem dX1_valueOf_73 : decode cX1_valueOf 73 = .ok (.iload_n 2, 1) := by decide +kernel
theorem dX1_valueOf_74 : decode cX1_valueOf 74 = .ok (.i2c, 1) := by decide +kernel
theorem dX1_valueOf_75 : decode cX1_valueOf 75 = .ok (.invokevirtual 71, 3) := by decide +kernel
theorem dX1_valueOf_78 : decode cX1_valueOf 78 = .ok (.ireturn, 1) := by decide +kernel
theorem dX1_valueOf_79 : decode cX1_valueOf 79 = .ok (.iload_n 2, 1) := by decide +kernel
theorem dX1_valueOf_80 : decode cX1_valueOf 80 = .ok (.bipush 9, 2) := by decide +kernel
theorem dX1_valueOf_82 : decode cX1_valueOf 82 = .ok (.invokestatic 63, 3) := by decide +kernel
theorem dX1_valueOf_85 : decode cX1_valueOf 85 = .ok (.ireturn, 1) := by decide +kernel
theorem dX1_keep_0 : decode cX1_keep 0 = .ok (.aload_n 0, 1) := by decide +kernel
theorem dX1_keep_1 : decode cX1_keep 1 = .ok (.getfield 31, 3) := by decide +kernel
theorem dX1_keep_4 : decode cX1_keep 4 = .ok (.bipush 6, 2) := by decide +kernel
theorem dX1_keep_6 : decode cX1_keep 6 = .ok (.imul, 1) := by decide +kernel
theorem dX1_keep_7 : decode cX1_keep 7 = .ok (.iload_n 1, 1) := by decide +kernel
theorem dX1_keep_8 : decode cX1_keep 8 = .ok (.iadd, 1) := by decide +kernel
theorem dX1_keep_9 : decode cX1_keep 9 = .ok (.istore_n 3, 1) := by decide +kernel
theorem dX1_keep_10 : decode cX1_keep 10 = .ok (.iload_n 3, 1) := by decide +kernel
theorem dX1_keep_11 : decode cX1_keep 11 = .ok (.ifCond .lt 12, 3) := by decide +kernel
theorem dX1_keep_14 : decode cX1_keep 14 = .ok (.iload_n 3, 1) := by decide +kernel
theorem dX1_keep_15 : decode cX1_keep 15 = .ok (.aload_n 0, 1) := by decide +kernel
theorem dX1_keep_16 : decode cX1_keep 16 = .ok (.getfield 9, 3) := by decide +kernel
theorem dX1_keep_19 : decode cX1_keep 19 = .ok (.arraylength, 1) := by decide +kernel
theorem dX1_keep_20 : decode cX1_keep 20 = .ok (.if_icmp .lt 4, 3) := by decide +kernel
theorem dX1_keep_23 : decode cX1_keep 23 = .ok (.return_, 1) := by decide +kernel
theorem dX1_keep_24 : decode cX1_keep 24 = .ok (.iload_n 1, 1) := by decide +kernel
theorem dX1_keep_25 : decode cX1_keep 25 = .ok (.iconst 2, 1) := by decide +kernel
theorem dX1_keep_26 : decode cX1_keep 26 = .ok (.if_icmp .ne 41, 3) := by decide +kernel
theorem dX1_keep_29 : decode cX1_keep 29 = .ok (.aload_n 0, 1) := by decide +kernel
theorem dX1_keep_30 : decode cX1_keep 30 = .ok (.getfield 28, 3) := by decide +kernel
theorem dX1_keep_33 : decode cX1_keep 33 = .ok (.ifCond .le 34, 3) := by decide +kernel
theorem dX1_keep_36 : decode cX1_keep 36 = .ok (.aload_n 0, 1) := by decide +kernel
theorem dX1_keep_37 : decode cX1_keep 37 = .ok (.getfield 28, 3) := by decide +kernel
theorem dX1_keep_40 : decode cX1_keep 40 = .ok (.aload_n 0, 1) := by decide +kernel
theorem dX1_keep_41 : decode cX1_keep 41 = .ok (.getfield 19, 3) := by decide +kernel
theorem dX1_keep_44 : decode cX1_keep 44 = .ok (.arraylength, 1) := by decide +kernel
theorem dX1_keep_45 : decode cX1_keep 45 = .ok (.if_icmp .gt 22, 3) := by decide +kernel
theorem dX1_keep_48 : decode cX1_keep 48 = .ok (.aload_n 0, 1) := by decide +kernel
theorem dX1_keep_49 : decode cX1_keep 49 = .ok (.getfield 19, 3) := by decide +kernel
theorem dX1_keep_52 : decode cX1_keep 52 = .ok (.aload_n 0, 1) := by decide +kernel
theorem dX1_keep_53 : decode cX1_keep 53 = .ok (.getfield 28, 3) := by decide +kernel
theorem dX1_keep_56 : decode cX1_keep 56 = .ok (.iconst 1, 1) := by decide +kernel
theorem dX1_keep_57 : decode cX1_keep 57 = .ok (.isub, 1) := by decide +kernel
theorem dX1_keep_58 : decode cX1_keep 58 = .ok (.iaload, 1) := by decide +kernel
theorem dX1_keep_59 : decode cX1_keep 59 = .ok (.iconst 2, 1) := by decide +kernel
theorem dX1_keep_60 : decode cX1_keep 60 = .ok (.if_icmp .ne 7, 3) := by decide +kernel
theorem dX1_keep_63 : decode cX1_keep 63 = .ok (.iconst 1, 1) := by decide +kernel
theorem dX1_keep_64 : decode cX1_keep 64 = .ok (.goto 4, 3) := by decide +kernel
theorem dX1_keep_67 : decode cX1_keep 67 = .ok (.iconst 0, 1) := by decide +kernel
theorem dX1_keep_68 : decode cX1_keep 68 = .ok (.istore 4, 2) := by decide +kernel
theorem dX1_keep_70 : decode cX1_keep 70 = .ok (.aload_n 0, 1) := by decide +kernel
theorem dX1_keep_71 : decode cX1_keep 71 = .ok (.getfield 9, 3) := by decide +kernel
theorem dX1_keep_74 : decode cX1_keep 74 = .ok (.iload_n 3, 1) := by decide +kernel
theorem dX1_keep_75 : decode cX1_keep 75 = .ok (.iload 4, 2) := by decide +kernel
theorem dX1_keep_77 : decode cX1_keep 77 = .ok (.ifCond .eq 17, 3) := by decide +kernel
theorem dX1_keep_80 : decode cX1_keep 80 = .ok (.bipush 10, 2) := by decide +kernel
theorem dX1_keep_82 : decode cX1_keep 82 = .ok (.aload_n 0, 1) := by decide +kernel
theorem dX1_keep_83 : decode cX1_keep 83 = .ok (.getfield 9, 3) := by decide +kernel
theorem dX1_keep_86 : decode cX1_keep 86 = .ok (.iload_n 3, 1) := by decide +kernel
theorem dX1_keep_87 : decode cX1_keep 87 = .ok (.iaload, 1) := by decide +kernel
theorem dX1_keep_88 : decode cX1_keep 88 = .ok (.imul, 1) := by decide +kernel
theorem dX1_keep_89 : decode cX1_keep 89 = .ok (.iload_n 2, 1) := by decide +kernel
theorem dX1_keep_90 : decode cX1_keep 90 = .ok (.iadd, 1) := by decide +kernel
theorem dX1_keep_91 : decode cX1_keep 91 = .ok (.goto 4, 3) := by decide +kernel
theorem dX1_keep_94 : decode cX1_keep 94 = .ok (.iload_n 2, 1) := by decide +kernel
theorem dX1_keep_95 : decode cX1_keep 95 = .ok (.iastore, 1) := by decide +kernel
theorem dX1_keep_96 : decode cX1_keep 96 = .ok (.aload_n 0, 1) := by decide +kernel
theorem dX1_keep_97 : decode cX1_keep 97 = .ok (.iload_n 1, 1) := by decide +kernel
theorem dX1_keep_98 : decode cX1_keep 98 = .ok (.ifCond .ne 7, 3) := by decide +kernel
theorem dX1_keep_101 : decode cX1_keep 101 = .ok (.iload_n 2, 1) := by decide +kernel
theorem dX1_keep_102 : decode cX1_keep 102 = .ok (.goto 7, 3) := by decide +kernel
theorem dX1_keep_105 : decode cX1_keep 105 = .ok (.aload_n 0, 1) := by decide +kernel
theorem dX1_keep_106 : decode cX1_keep 106 = .ok (.getfield 66, 3) := by decide +kernel
theorem dX1_keep_109 : decode cX1_keep 109 = .ok (.putfield 66, 3) := by decide +kernel
theorem dX1_keep_112 : decode cX1_keep 112 = .ok (.return_, 1) := by decide +kernel
theorem dX1_figure_0 : decode cX1_figure 0 = .ok (.iload_n 0, 1) := by decide +kernel
theorem dX1_figure_1 : decode cX1_figure 1 = .ok (.bipush 48, 2) := by decide +kernel
theorem dX1_figure_3 : decode cX1_figure 3 = .ok (.isub, 1) := by decide +kernel
theorem dX1_figure_4 : decode cX1_figure 4 = .ok (.istore_n 2, 1) := by decide +kernel
theorem dX1_figure_5 : decode cX1_figure 5 = .ok (.iload_n 2, 1) := by decide +kernel
theorem dX1_figure_6 : decode cX1_figure 6 = .ok (.ifCond .lt 8, 3) := by decide +kernel
theorem dX1_figure_9 : decode cX1_figure 9 = .ok (.iload_n 2, 1) := by decide +kernel
theorem dX1_figure_10 : decode cX1_figure 10 = .ok (.iload_n 1, 1) := by decide +kernel
theorem dX1_figure_11 : decode cX1_figure 11 = .ok (.if_icmp .le 7, 3) := by decide +kernel
theorem dX1_figure_14 : decode cX1_figure 14 = .ok (.iconst (-1), 1) := by decide +kernel
theorem dX1_figure_15 : decode cX1_figure 15 = .ok (.goto 4, 3) := by decide +kernel
theorem dX1_figure_18 : decode cX1_figure 18 = .ok (.iload_n 2, 1) := by decide +kernel
theorem dX1_figure_19 : decode cX1_figure 19 = .ok (.ireturn, 1) := by decide +kernel
theorem dX2_init_0 : decode cX2_init 0 = .ok (.aload_n 0, 1) := by decide +kernel
theorem dX2_init_1 : decode cX2_init 1 = .ok (.invokespecial 1, 3) := by decide +kernel
theorem dX2_init_4 : decode cX2_init 4 = .ok (.return_, 1) := by decide +kernel
theorem dX2_beginWith_0 : decode cX2_beginWith 0 = .ok (.aload_n 0, 1) := by decide +kernel
theorem dX2_beginWith_1 : decode cX2_beginWith 1 = .ok (.iload_n 1, 1) := by decide +kernel
theorem dX2_beginWith_2 : decode cX2_beginWith 2 = .ok (.putfield 7, 3) := by decide +kernel
theorem dX2_beginWith_5 : decode cX2_beginWith 5 = .ok (.return_, 1) := by decide +kernel
theorem dX2_drawRow_0 : decode cX2_drawRow 0 = .ok (.iconst 0, 1) := by decide +kernel
theorem dX2_drawRow_1 : decode cX2_drawRow 1 = .ok (.istore_n 2, 1) := by decide +kernel
theorem dX2_drawRow_2 : decode cX2_drawRow 2 = .ok (.iconst 0, 1) := by decide +kernel
theorem dX2_drawRow_3 : decode cX2_drawRow 3 = .ok (.istore_n 3, 1) := by decide +kernel
theorem dX2_drawRow_4 : decode cX2_drawRow 4 = .ok (.iload_n 3, 1) := by decide +kernel
theorem dX2_drawRow_5 : decode cX2_drawRow 5 = .ok (.iload_n 1, 1) := by decide +kernel
theorem dX2_drawRow_6 : decode cX2_drawRow 6 = .ok (.if_icmp .ge 19, 3) := by decide +kernel
theorem dX2_drawRow_9 : decode cX2_drawRow 9 = .ok (.iload_n 2, 1) := by decide +kernel
theorem dX2_drawRow_10 : decode cX2_drawRow 10 = .ok (.aload_n 0, 1) := by decide +kernel
theorem dX2_drawRow_11 : decode cX2_drawRow 11 = .ok (.iconst 2, 1) := by decide +kernel
theorem dX2_drawRow_12 : decode cX2_drawRow 12 = .ok (.invokevirtual 13, 3) := by decide +kernel
theorem dX2_drawRow_15 : decode cX2_drawRow 15 = .ok (.iload_n 3, 1) := by decide +kernel
theorem dX2_drawRow_16 : decode cX2_drawRow 16 = .ok (.ishl, 1) := by decide +kernel
theorem dX2_drawRow_17 : decode cX2_drawRow 17 = .ok (.ior, 1) := by decide +kernel
theorem dX2_drawRow_18 : decode cX2_drawRow 18 = .ok (.istore_n 2, 1) := by decide +kernel
theorem dX2_drawRow_19 : decode cX2_drawRow 19 = .ok (.iinc 3 1, 3) := by decide +kernel
theorem dX2_drawRow_22 : decode cX2_drawRow 22 = .ok (.goto (-18), 3) := by decide +kernel
theorem dX2_drawRow_25 : decode cX2_drawRow 25 = .ok (.iload_n 2, 1) := by decide +kernel
theorem dX2_drawRow_26 : decode cX2_drawRow 26 = .ok (.ireturn, 1) := by decide +kernel
theorem dX2_draw_0 : decode cX2_draw 0 = .ok (.aload_n 0, 1) := by decide +kernel
theorem dX2_draw_1 : decode cX2_draw 1 = .ok (.ldc 17, 2) := by decide +kernel
theorem dX2_draw_3 : decode cX2_draw 3 = .ok (.aload_n 0, 1) := by decide +kernel
theorem dX2_draw_4 : decode cX2_draw 4 = .ok (.getfield 7, 3) := by decide +kernel
theorem dX2_draw_7 : decode cX2_draw 7 = .ok (.imul, 1) := by decide +kernel
theorem dX2_draw_8 : decode cX2_draw 8 = .ok (.sipush 12345, 3) := by decide +kernel
theorem dX2_draw_11 : decode cX2_draw 11 = .ok (.iadd, 1) := by decide +kernel
theorem dX2_draw_12 : decode cX2_draw 12 = .ok (.putfield 7, 3) := by decide +kernel
theorem dX2_draw_15 : decode cX2_draw 15 = .ok (.iload_n 1, 1) := by decide +kernel
theorem dX2_draw_16 : decode cX2_draw 16 = .ok (.ifCond .le 15, 3) := by decide +kernel
theorem dX2_draw_19 : decode cX2_draw 19 = .ok (.aload_n 0, 1) := by decide +kernel
theorem dX2_draw_20 : decode cX2_draw 20 = .ok (.getfield 7, 3) := by decide +kernel
theorem dX2_draw_23 : decode cX2_draw 23 = .ok (.bipush 16, 2) := by decide +kernel
theorem dX2_draw_25 : decode cX2_draw 25 = .ok (.iushr, 1) := by decide +kernel
theorem dX2_draw_26 : decode cX2_draw 26 = .ok (.iload_n 1, 1) := by decide +kernel
theorem dX2_draw_27 : decode cX2_draw 27 = .ok (.irem, 1) := by decide +kernel
theorem dX2_draw_28 : decode cX2_draw 28 = .ok (.goto 4, 3) := by decide +kernel
theorem dX2_draw_31 : decode cX2_draw 31 = .ok (.iconst 0, 1) := by decide +kernel
theorem dX2_draw_32 : decode cX2_draw 32 = .ok (.ireturn, 1) := by decide +kernel
theorem dX3_init_0 : decode cX3_init 0 = .ok (.aload_n 0, 1) := by decide +kernel
theorem dX3_init_1 : decode cX3_init 1 = .ok (.invokespecial 3, 3) := by decide +kernel
theorem dX3_init_4 : decode cX3_init 4 = .ok (.aload_n 0, 1) := by decide +kernel
theorem dX3_init_5 : decode cX3_init 5 = .ok (.sipush 1024, 3) := by decide +kernel
theorem dX3_init_8 : decode cX3_init 8 = .ok (.newarray .int, 2) := by decide +kernel
theorem dX3_init_10 : decode cX3_init 10 = .ok (.putfield 9, 3) := by decide +kernel
theorem dX3_init_13 : decode cX3_init 13 = .ok (.aload_n 0, 1) := by decide +kernel
theorem dX3_init_14 : decode cX3_init 14 = .ok (.sipush 1024, 3) := by decide +kernel
theorem dX3_init_17 : decode cX3_init 17 = .ok (.newarray .int, 2) := by decide +kernel
theorem dX3_init_19 : decode cX3_init 19 = .ok (.putfield 15, 3) := by decide +kernel
theorem dX3_init_22 : decode cX3_init 22 = .ok (.aload_n 0, 1) := by decide +kernel
theorem dX3_init_23 : decode cX3_init 23 = .ok (.sipush 1024, 3) := by decide +kernel
theorem dX3_init_26 : decode cX3_init 26 = .ok (.newarray .int, 2) := by decide +kernel
theorem dX3_init_28 : decode cX3_init 28 = .ok (.putfield 18, 3) := by decide +kernel
theorem dX3_init_31 : decode cX3_init 31 = .ok (.aload_n 0, 1) := by decide +kernel
theorem dX3_init_32 : decode cX3_init 32 = .ok (.bipush 10, 2) := by decide +kernel
theorem dX3_init_34 : decode cX3_init 34 = .ok (.newarray .int, 2) := by decide +kernel
theorem dX3_init_36 : decode cX3_init 36 = .ok (.putfield 21, 3) := by decide +kernel
theorem dX3_init_39 : decode cX3_init 39 = .ok (.aload_n 0, 1) := by decide +kernel
theorem dX3_init_40 : decode cX3_init 40 = .ok (.bipush 10, 2) := by decide +kernel
theorem dX3_init_42 : decode cX3_init 42 = .ok (.newarray .int, 2) := by decide +kernel
theorem dX3_init_44 : decode cX3_init 44 = .ok (.putfield 24, 3) := by decide +kernel
theorem dX3_init_47 : decode cX3_init 47 = .ok (.return_, 1) := by decide +kernel
theorem dX3_workOut_0 : decode cX3_workOut 0 = .ok (.aload_n 0, 1) := by decide +kernel
theorem dX3_workOut_1 : decode cX3_workOut 1 = .ok (.aload_n 1, 1) := by decide +kernel
theorem dX3_workOut_2 : decode cX3_workOut 2 = .ok (.invokevirtual 27, 3) := by decide +kernel
theorem dX3_workOut_5 : decode cX3_workOut 5 = .ok (.bipush 10, 2) := by decide +kernel
theorem dX3_workOut_7 : decode cX3_workOut 7 = .ok (.invokestatic 33, 3) := by decide +kernel
theorem dX3_workOut_10 : decode cX3_workOut 10 = .ok (.putfield 39, 3) := by decide +kernel
theorem dX3_workOut_13 : decode cX3_workOut 13 = .ok (.aload_n 0, 1) := by decide +kernel
theorem dX3_workOut_14 : decode cX3_workOut 14 = .ok (.iconst 1, 1) := by decide +kernel
theorem dX3_workOut_15 : decode cX3_workOut 15 = .ok (.aload_n 0, 1) := by decide +kernel
theorem dX3_workOut_16 : decode cX3_workOut 16 = .ok (.getfield 39, 3) := by decide +kernel
theorem dX3_workOut_19 : decode cX3_workOut 19 = .ok (.ishl, 1) := by decide +kernel
theorem dX3_workOut_20 : decode cX3_workOut 20 = .ok (.iconst 1, 1) := by decide +kernel
theorem dX3_workOut_21 : decode cX3_workOut 21 = .ok (.isub, 1) := by decide +kernel
theorem dX3_workOut_22 : decode cX3_workOut 22 = .ok (.putfield 43, 3) := by decide +kernel
theorem dX3_workOut_25 : decode cX3_workOut 25 = .ok (.aload_n 0, 1) := by decide +kernel
theorem dX3_workOut_26 : decode cX3_workOut 26 = .ok (.aload_n 1, 1) := by decide +kernel
theorem dX3_workOut_27 : decode cX3_workOut 27 = .ok (.iload_n 2, 1) := by decide +kernel
theorem dX3_workOut_28 : decode cX3_workOut 28 = .ok (.invokevirtual 46, 3) := by decide +kernel
theorem dX3_workOut_31 : decode cX3_workOut 31 = .ok (.aload_n 0, 1) := by decide +kernel
theorem dX3_workOut_32 : decode cX3_workOut 32 = .ok (.getfield 9, 3) := by decide +kernel
theorem dX3_workOut_35 : decode cX3_workOut 35 = .ok (.iconst 0, 1) := by decide +kernel
theorem dX3_workOut_36 : decode cX3_workOut 36 = .ok (.aload_n 1, 1) := by decide +kernel
theorem dX3_workOut_37 : decode cX3_workOut 37 = .ok (.invokestatic 50, 3) := by decide +kernel
theorem dX3_workOut_40 : decode cX3_workOut 40 = .ok (.iastore, 1) := by decide +kernel
theorem dX3_workOut_41 : decode cX3_workOut 41 = .ok (.aload_n 0, 1) := by decide +kernel
theorem dX3_workOut_42 : decode cX3_workOut 42 = .ok (.invokevirtual 54, 3) := by decide +kernel
theorem dX3_workOut_45 : decode cX3_workOut 45 = .ok (.aload_n 0, 1) := by decide +kernel
theorem dX3_workOut_46 : decode cX3_workOut 46 = .ok (.iconst 0, 1) := by decide +kernel
theorem dX3_workOut_47 : decode cX3_workOut 47 = .ok (.putfield 57, 3) := by decide +kernel
theorem dX3_workOut_50 : decode cX3_workOut 50 = .ok (.iconst 0, 1) := by decide +kernel
theorem dX3_workOut_51 : decode cX3_workOut 51 = .ok (.istore 4, 2) := by decide +kernel
theorem dX3_workOut_53 : decode cX3_workOut 53 = .ok (.iload 4, 2) := by decide +kernel
theorem dX3_workOut_55 : decode cX3_workOut 55 = .ok (.aload_n 0, 1) := by decide +kernel
theorem dX3_workOut_56 : decode cX3_workOut 56 = .ok (.getfield 43, 3) := by decide +kernel
theorem dX3_workOut_59 : decode cX3_workOut 59 = .ok (.if_icmp .gt 76, 3) := by decide +kernel
theorem dX3_workOut_62 : decode cX3_workOut 62 = .ok (.aload_n 0, 1) := by decide +kernel
theorem dX3_workOut_63 : decode cX3_workOut 63 = .ok (.getfield 9, 3) := by decide +kernel
theorem dX3_workOut_66 : decode cX3_workOut 66 = .ok (.iload 4, 2) := by decide +kernel
theorem dX3_workOut_68 : decode cX3_workOut 68 = .ok (.aload_n 0, 1) := by decide +kernel
theorem dX3_workOut_69 : decode cX3_workOut 69 = .ok (.getfield 9, 3) := by decide +kernel
theorem dX3_workOut_72 : decode cX3_workOut 72 = .ok (.iload 4, 2) := by decide +kernel
theorem dX3_workOut_74 : decode cX3_workOut 74 = .ok (.iaload, 1) := by decide +kernel
theorem dX3_workOut_75 : decode cX3_workOut 75 = .ok (.iload 4, 2) := by decide +kernel
theorem dX3_workOut_77 : decode cX3_workOut 77 = .ok (.ixor, 1) := by decide +kernel
theorem dX3_workOut_78 : decode cX3_workOut 78 = .ok (.aload_n 0, 1) := by decide +kernel
theorem dX3_workOut_79 : decode cX3_workOut 79 = .ok (.getfield 43, 3) := by decide +kernel
theorem dX3_workOut_82 : decode cX3_workOut 82 = .ok (.iand, 1) := by decide +kernel
theorem dX3_workOut_83 : decode cX3_workOut 83 = .ok (.iload_n 3, 1) := by decide +kernel
theorem dX3_workOut_84 : decode cX3_workOut 84 = .ok (.iconst (-1), 1) := by decide +kernel
theorem dX3_workOut_85 : decode cX3_workOut 85 = .ok (.ixor, 1) := by decide +kernel
theorem dX3_workOut_86 : decode cX3_workOut 86 = .ok (.iand, 1) := by decide +kernel
theorem dX3_workOut_87 : decode cX3_workOut 87 = .ok (.iastore, 1) := by decide +kernel
theorem dX3_workOut_88 : decode cX3_workOut 88 = .ok (.aload_n 0, 1) := by decide +kernel
theorem dX3_workOut_89 : decode cX3_workOut 89 = .ok (.getfield 9, 3) := by decide +kernel
theorem dX3_workOut_92 : decode cX3_workOut 92 = .ok (.iload 4, 2) := by decide +kernel
theorem dX3_workOut_94 : decode cX3_workOut 94 = .ok (.iaload, 1) := by decide +kernel
theorem dX3_workOut_95 : decode cX3_workOut 95 = .ok (.ifCond .ne 34, 3) := by decide +kernel
theorem dX3_workOut_98 : decode cX3_workOut 98 = .ok (.aload_n 0, 1) := by decide +kernel
theorem dX3_workOut_99 : decode cX3_workOut 99 = .ok (.getfield 57, 3) := by decide +kernel
theorem dX3_workOut_102 : decode cX3_workOut 102 = .ok (.sipush 1024, 3) := by decide +kernel
theorem dX3_workOut_105 : decode cX3_workOut 105 = .ok (.if_icmp .ge 24, 3) := by decide +kernel
theorem dX3_workOut_108 : decode cX3_workOut 108 = .ok (.aload_n 0, 1) := by decide +kernel
theorem dX3_workOut_109 : decode cX3_workOut 109 = .ok (.getfield 15, 3) := by decide +kernel
theorem dX3_workOut_112 : decode cX3_workOut 112 = .ok (.aload_n 0, 1) := by decide +kernel
theorem dX3_workOut_113 : decode cX3_workOut 113 = .ok (.getfield 57, 3) := by decide +kernel
theorem dX3_workOut_116 : decode cX3_workOut 116 = .ok (.iload 4, 2) := by decide +kernel
theorem dX3_workOut_118 : decode cX3_workOut 118 = .ok (.iastore, 1) := by decide +kernel
theorem dX3_workOut_119 : decode cX3_workOut 119 = .ok (.aload_n 0, 1) := by decide +kernel
theorem dX3_workOut_120 : decode cX3_workOut 120 = .ok (.dup, 1) := by decide +kernel
theorem dX3_workOut_121 : decode cX3_workOut 121 = .ok (.getfield 57, 3) := by decide +kernel
theorem dX3_workOut_124 : decode cX3_workOut 124 = .ok (.iconst 1, 1) := by decide +kernel
theorem dX3_workOut_125 : decode cX3_workOut 125 = .ok (.iadd, 1) := by decide +kernel
theorem dX3_workOut_126 : decode cX3_workOut 126 = .ok (.putfield 57, 3) := by decide +kernel
theorem dX3_workOut_129 : decode cX3_workOut 129 = .ok (.iinc 4 1, 3) := by decide +kernel
theorem dX3_workOut_132 : decode cX3_workOut 132 = .ok (.goto (-79), 3) := by decide +kernel
theorem dX3_workOut_135 : decode cX3_workOut 135 = .ok (.return_, 1) := by decide +kernel
theorem dX3_findTies_0 : decode cX3_findTies 0 = .ok (.aload_n 0, 1) := by decide +kernel
theorem dX3_findTies_1 : decode cX3_findTies 1 = .ok (.getfield 24, 3) := by decide +kernel
theorem dX3_findTies_4 : decode cX3_findTies 4 = .ok (.iconst 0, 1) := by decide +kernel
theorem dX3_findTies_5 : decode cX3_findTies 5 = .ok (.invokestatic 60, 3) := by decide +kernel
theorem dX3_findTies_8 : decode cX3_findTies 8 = .ok (.iconst 0, 1) := by decide +kernel
theorem dX3_findTies_9 : decode cX3_findTies 9 = .ok (.istore_n 3, 1) := by decide +kernel
theorem dX3_findTies_10 : decode cX3_findTies 10 = .ok (.iload_n 3, 1) := by decide +kernel
theorem dX3_findTies_11 : decode cX3_findTies 11 = .ok (.aload_n 0, 1) := by decide +kernel
theorem dX3_findTies_12 : decode cX3_findTies 12 = .ok (.getfield 39, 3) := by decide +kernel
theorem dX3_findTies_15 : decode cX3_findTies 15 = .ok (.if_icmp .ge 122, 3) := by decide +kernel
theorem dX3_findTies_18 : decode cX3_findTies 18 = .ok (.aload_n 1, 1) := by decide +kernel
theorem dX3_findTies_19 : decode cX3_findTies 19 = .ok (.iload_n 3, 1) := by decide +kernel
theorem dX3_findTies_20 : decode cX3_findTies 20 = .ok (.iconst 5, 1) := by decide +kernel
theorem dX3_findTies_21 : decode cX3_findTies 21 = .ok (.invokevirtual 66, 3) := by decide +kernel
theorem dX3_findTies_24 : decode cX3_findTies 24 = .ok (.istore 4, 2) := by decide +kernel
theorem dX3_findTies_26 : decode cX3_findTies 26 = .ok (.iload 4, 2) := by decide +kernel
theorem dX3_findTies_28 : decode cX3_findTies 28 = .ok (.ifCond .lt 16, 3) := by decide +kernel
theorem dX3_findTies_31 : decode cX3_findTies 31 = .ok (.iload 4, 2) := by decide +kernel
theorem dX3_findTies_33 : decode cX3_findTies 33 = .ok (.aload_n 0, 1) := by decide +kernel
theorem dX3_findTies_34 : decode cX3_findTies 34 = .ok (.getfield 39, 3) := by decide +kernel
theorem dX3_findTies_37 : decode cX3_findTies 37 = .ok (.if_icmp .ge 7, 3) := by decide +kernel
theorem dX3_findTies_40 : decode cX3_findTies 40 = .ok (.iconst 1, 1) := by decide +kernel
theorem dX3_findTies_41 : decode cX3_findTies 41 = .ok (.goto 4, 3) := by decide +kernel
theorem dX3_findTies_44 : decode cX3_findTies 44 = .ok (.iconst 0, 1) := by decide +kernel
theorem dX3_findTies_45 : decode cX3_findTies 45 = .ok (.istore 5, 2) := by decide +kernel
theorem dX3_findTies_47 : decode cX3_findTies 47 = .ok (.iload 5, 2) := by decide +kernel
theorem dX3_findTies_49 : decode cX3_findTies 49 = .ok (.ifCond .eq 25, 3) := by decide +kernel
theorem dX3_findTies_52 : decode cX3_findTies 52 = .ok (.aload_n 1, 1) := by decide +kernel
theorem dX3_findTies_53 : decode cX3_findTies 53 = .ok (.iload 4, 2) := by decide +kernel
theorem dX3_findTies_55 : decode cX3_findTies 55 = .ok (.iconst 2, 1) := by decide +kernel
theorem dX3_findTies_56 : decode cX3_findTies 56 = .ok (.invokevirtual 66, 3) := by decide +kernel
theorem dX3_findTies_59 : decode cX3_findTies 59 = .ok (.iload_n 2, 1) := by decide +kernel
theorem dX3_findTies_60 : decode cX3_findTies 60 = .ok (.isub, 1) := by decide +kernel
theorem dX3_findTies_61 : decode cX3_findTies 61 = .ok (.aload_n 1, 1) := by decide +kernel
theorem dX3_findTies_62 : decode cX3_findTies 62 = .ok (.iload_n 3, 1) := by decide +kernel
theorem dX3_findTies_63 : decode cX3_findTies 63 = .ok (.iconst 2, 1) := by decide +kernel
theorem dX3_findTies_64 : decode cX3_findTies 64 = .ok (.invokevirtual 66, 3) := by decide +kernel
theorem dX3_findTies_67 : decode cX3_findTies 67 = .ok (.if_icmp .gt 7, 3) := by decide +kernel
theorem dX3_findTies_70 : decode cX3_findTies 70 = .ok (.iconst 1, 1) := by decide +kernel
theorem dX3_findTies_71 : decode cX3_findTies 71 = .ok (.goto 4, 3) := by decide +kernel
theorem dX3_findTies_74 : decode cX3_findTies 74 = .ok (.iconst 0, 1) := by decide +kernel
theorem dX3_findTies_75 : decode cX3_findTies 75 = .ok (.istore 6, 2) := by decide +kernel
theorem dX3_findTies_77 : decode cX3_findTies 77 = .ok (.aload_n 0, 1) := by decide +kernel
theorem dX3_findTies_78 : decode cX3_findTies 78 = .ok (.getfield 21, 3) := by decide +kernel
theorem dX3_findTies_81 : decode cX3_findTies 81 = .ok (.iload_n 3, 1) := by decide +kernel
theorem dX3_findTies_82 : decode cX3_findTies 82 = .ok (.iload 6, 2) := by decide +kernel
theorem dX3_findTies_84 : decode cX3_findTies 84 = .ok (.ifCond .eq 8, 3) := by decide +kernel
theorem dX3_findTies_87 : decode cX3_findTies 87 = .ok (.iload 4, 2) := by decide +kernel
theorem dX3_findTies_89 : decode cX3_findTies 89 = .ok (.goto 4, 3) := by decide +kernel
theorem dX3_findTies_92 : decode cX3_findTies 92 = .ok (.iconst (-1), 1) := by decide +kernel
theorem dX3_findTies_93 : decode cX3_findTies 93 = .ok (.iastore, 1) := by decide +kernel
theorem dX3_findTies_94 : decode cX3_findTies 94 = .ok (.iload 6, 2) := by decide +kernel
theorem dX3_findTies_96 : decode cX3_findTies 96 = .ok (.ifCond .eq 35, 3) := by decide +kernel
theorem dX3_findTies_99 : decode cX3_findTies 99 = .ok (.aload_n 1, 1) := by decide +kernel
theorem dX3_findTies_100 : decode cX3_findTies 100 = .ok (.iload_n 3, 1) := by decide +kernel
theorem dX3_findTies_101 : decode cX3_findTies 101 = .ok (.iconst 4, 1) := by decide +kernel
theorem dX3_findTies_102 : decode cX3_findTies 102 = .ok (.invokevirtual 66, 3) := by decide +kernel
theorem dX3_findTies_105 : decode cX3_findTies 105 = .ok (.aload_n 1, 1) := by decide +kernel
theorem dX3_findTies_106 : decode cX3_findTies 106 = .ok (.iload 4, 2) := by decide +kernel
theorem dX3_findTies_108 : decode cX3_findTies 108 = .ok (.iconst 3, 1) := by decide +kernel
theorem dX3_findTies_109 : decode cX3_findTies 109 = .ok (.invokevirtual 66, 3) := by decide +kernel
theorem dX3_findTies_112 : decode cX3_findTies 112 = .ok (.invokestatic 69, 3) := by decide +kernel
theorem dX3_findTies_115 : decode cX3_findTies 115 = .ok (.ifCond .eq 16, 3) := by decide +kernel
theorem dX3_findTies_118 : decode cX3_findTies 118 = .ok (.aload_n 0, 1) := by decide +kernel
theorem dX3_findTies_119 : decode cX3_findTies 119 = .ok (.getfield 24, 3) := by decide +kernel
theorem dX3_findTies_122 : decode cX3_findTies 122 = .ok (.iload 4, 2) := by decide +kernel
theorem dX3_findTies_124 : decode cX3_findTies 124 = .ok (.dup2, 1) := by decide +kernel
theorem dX3_findTies_125 : decode cX3_findTies 125 = .ok (.iaload, 1) := by decide +kernel
theorem dX3_findTies_126 : decode cX3_findTies 126 = .ok (.iconst 1, 1) := by decide +kernel
theorem dX3_findTies_127 : decode cX3_findTies 127 = .ok (.iload_n 3, 1) := by decide +kernel
theorem dX3_findTies_128 : decode cX3_findTies 128 = .ok (.ishl, 1) := by decide +kernel
theorem dX3_findTies_129 : decode cX3_findTies 129 = .ok (.ior, 1) := by decide +kernel
theorem dX3_findTies_130 : decode cX3_findTies 130 = .ok (.iastore, 1) := by decide +kernel
theorem dX3_findTies_131 : decode cX3_findTies 131 = .ok (.iinc 3 1, 3) := by decide +kernel
theorem dX3_findTies_134 : decode cX3_findTies 134 = .ok (.goto (-124), 3) := by decide +kernel
theorem dX3_findTies_137 : decode cX3_findTies 137 = .ok (.return_, 1) := by decide +kernel
theorem dX3_isTurnedBy_0 : decode cX3_isTurnedBy 0 = .ok (.iload_n 0, 1) := by decide +kernel
theorem dX3_isTurnedBy_1 : decode cX3_isTurnedBy 1 = .ok (.iconst 4, 1) := by decide +kernel
theorem dX3_isTurnedBy_2 : decode cX3_isTurnedBy 2 = .ok (.if_icmp .eq 22, 3) := by decide +kernel
theorem dX3_isTurnedBy_5 : decode cX3_isTurnedBy 5 = .ok (.iload_n 0, 1) := by decide +kernel
theorem dX3_isTurnedBy_6 : decode cX3_isTurnedBy 6 = .ok (.iconst 2, 1) := by decide +kernel
theorem dX3_isTurnedBy_7 : decode cX3_isTurnedBy 7 = .ok (.if_icmp .ne 8, 3) := by decide +kernel
theorem dX3_isTurnedBy_10 : decode cX3_isTurnedBy 10 = .ok (.iload_n 1, 1) := by decide +kernel
theorem dX3_isTurnedBy_11 : decode cX3_isTurnedBy 11 = .ok (.iconst 1, 1) := by decide +kernel
theorem dX3_isTurnedBy_12 : decode cX3_isTurnedBy 12 = .ok (.if_icmp .eq 12, 3) := by decide +kernel
theorem dX3_isTurnedBy_15 : decode cX3_isTurnedBy 15 = .ok (.iload_n 0, 1) := by decide +kernel
theorem dX3_isTurnedBy_16 : decode cX3_isTurnedBy 16 = .ok (.iconst 3, 1) := by decide +kernel
theorem dX3_isTurnedBy_17 : decode cX3_isTurnedBy 17 = .ok (.if_icmp .ne 11, 3) := by decide +kernel
theorem dX3_isTurnedBy_20 : decode cX3_isTurnedBy 20 = .ok (.iload_n 1, 1) := by decide +kernel
theorem dX3_isTurnedBy_21 : decode cX3_isTurnedBy 21 = .ok (.ifCond .ne 7, 3) := by decide +kernel
theorem dX3_isTurnedBy_24 : decode cX3_isTurnedBy 24 = .ok (.iconst 1, 1) := by decide +kernel
theorem dX3_isTurnedBy_25 : decode cX3_isTurnedBy 25 = .ok (.goto 4, 3) := by decide +kernel
theorem dX3_isTurnedBy_28 : decode cX3_isTurnedBy 28 = .ok (.iconst 0, 1) := by decide +kernel
theorem dX3_isTurnedBy_29 : decode cX3_isTurnedBy 29 = .ok (.ireturn, 1) := by decide +kernel
theorem dX3_writtenUnanswered_0 : decode cX3_writtenUnanswered 0 = .ok (.aload_n 0, 1) := by decide +kernel
theorem dX3_writtenUnanswered_1 : decode cX3_writtenUnanswered 1 = .ok (.iconst 4, 1) := by decide +kernel
theorem dX3_writtenUnanswered_2 : decode cX3_writtenUnanswered 2 = .ok (.iconst 0, 1) := by decide +kernel
theorem dX3_writtenUnanswered_3 : decode cX3_writtenUnanswered 3 = .ok (.invokevirtual 73, 3) := by decide +kernel
theorem dX3_writtenUnanswered_6 : decode cX3_writtenUnanswered 6 = .ok (.aload_n 0, 1) := by decide +kernel
theorem dX3_writtenUnanswered_7 : decode cX3_writtenUnanswered 7 = .ok (.iconst 4, 1) := by decide +kernel
theorem dX3_writtenUnanswered_8 : decode cX3_writtenUnanswered 8 = .ok (.iconst 4, 1) := by decide +kernel
theorem dX3_writtenUnanswered_9 : decode cX3_writtenUnanswered 9 = .ok (.invokevirtual 73, 3) := by decide +kernel
theorem dX3_writtenUnanswered_12 : decode cX3_writtenUnanswered 12 = .ok (.ior, 1) := by decide +kernel
theorem dX3_writtenUnanswered_13 : decode cX3_writtenUnanswered 13 = .ok (.ireturn, 1) := by decide +kernel
theorem dX3_fillShould_0 : decode cX3_fillShould 0 = .ok (.iconst 0, 1) := by decide +kernel
theorem dX3_fillShould_1 : decode cX3_fillShould 1 = .ok (.istore_n 1, 1) := by decide +kernel
theorem dX3_fillShould_2 : decode cX3_fillShould 2 = .ok (.iload_n 1, 1) := by decide +kernel
theorem dX3_fillShould_3 : decode cX3_fillShould 3 = .ok (.aload_n 0, 1) := by decide +kernel
theorem dX3_fillShould_4 : decode cX3_fillShould 4 = .ok (.getfield 39, 3) := by decide +kernel
theorem dX3_fillShould_7 : decode cX3_fillShould 7 = .ok (.if_icmp .ge 56, 3) := by decide +kernel
theorem dX3_fillShould_10 : decode cX3_fillShould 10 = .ok (.iconst 1, 1) := by decide +kernel
theorem dX3_fillShould_11 : decode cX3_fillShould 11 = .ok (.iload_n 1, 1) := by decide +kernel
theorem dX3_fillShould_12 : decode cX3_fillShould 12 = .ok (.ishl, 1) := by decide +kernel
theorem dX3_fillShould_13 : decode cX3_fillShould 13 = .ok (.istore_n 2, 1) := by decide +kernel
theorem dX3_fillShould_14 : decode cX3_fillShould 14 = .ok (.iload_n 2, 1) := by decide +kernel
theorem dX3_fillShould_15 : decode cX3_fillShould 15 = .ok (.istore_n 3, 1) := by decide +kernel
theorem dX3_fillShould_16 : decode cX3_fillShould 16 = .ok (.iload_n 3, 1) := by decide +kernel
theorem dX3_fillShould_17 : decode cX3_fillShould 17 = .ok (.iconst 2, 1) := by decide +kernel
theorem dX3_fillShould_18 : decode cX3_fillShould 18 = .ok (.iload_n 2, 1) := by decide +kernel
theorem dX3_fillShould_19 : decode cX3_fillShould 19 = .ok (.imul, 1) := by decide +kernel
theorem dX3_fillShould_20 : decode cX3_fillShould 20 = .ok (.if_icmp .ge 37, 3) := by decide +kernel
theorem dX3_fillShould_23 : decode cX3_fillShould 23 = .ok (.iload_n 3, 1) := by decide +kernel
theorem dX3_fillShould_24 : decode cX3_fillShould 24 = .ok (.sipush 1024, 3) := by decide +kernel
theorem dX3_fillShould_27 : decode cX3_fillShould 27 = .ok (.if_icmp .ge 30, 3) := by decide +kernel
theorem dX3_fillShould_30 : decode cX3_fillShould 30 = .ok (.aload_n 0, 1) := by decide +kernel
theorem dX3_fillShould_31 : decode cX3_fillShould 31 = .ok (.getfield 9, 3) := by decide +kernel
theorem dX3_fillShould_34 : decode cX3_fillShould 34 = .ok (.iload_n 3, 1) := by decide +kernel
theorem dX3_fillShould_35 : decode cX3_fillShould 35 = .ok (.aload_n 0, 1) := by decide +kernel
theorem dX3_fillShould_36 : decode cX3_fillShould 36 = .ok (.getfield 9, 3) := by decide +kernel
theorem dX3_fillShould_39 : decode cX3_fillShould 39 = .ok (.iload_n 3, 1) := by decide +kernel
theorem dX3_fillShould_40 : decode cX3_fillShould 40 = .ok (.iload_n 2, 1) := by decide +kernel
theorem dX3_fillShould_41 : decode cX3_fillShould 41 = .ok (.isub, 1) := by decide +kernel
theorem dX3_fillShould_42 : decode cX3_fillShould 42 = .ok (.iaload, 1) := by decide +kernel
theorem dX3_fillShould_43 : decode cX3_fillShould 43 = .ok (.aload_n 0, 1) := by decide +kernel
theorem dX3_fillShould_44 : decode cX3_fillShould 44 = .ok (.getfield 24, 3) := by decide +kernel
theorem dX3_fillShould_47 : decode cX3_fillShould 47 = .ok (.iload_n 1, 1) := by decide +kernel
theorem dX3_fillShould_48 : decode cX3_fillShould 48 = .ok (.iaload, 1) := by decide +kernel
theorem dX3_fillShould_49 : decode cX3_fillShould 49 = .ok (.ixor, 1) := by decide +kernel
theorem dX3_fillShould_50 : decode cX3_fillShould 50 = .ok (.iastore, 1) := by decide +kernel
theorem dX3_fillShould_51 : decode cX3_fillShould 51 = .ok (.iinc 3 1, 3) := by decide +kernel
theorem dX3_fillShould_54 : decode cX3_fillShould 54 = .ok (.goto (-38), 3) := by decide +kernel
theorem dX3_fillShould_57 : decode cX3_fillShould 57 = .ok (.iinc 1 1, 3) := by decide +kernel
theorem dX3_fillShould_60 : decode cX3_fillShould 60 = .ok (.goto (-58), 3) := by decide +kernel
theorem dX3_fillShould_63 : decode cX3_fillShould 63 = .ok (.return_, 1) := by decide +kernel
theorem dX3_allBits_0 : decode cX3_allBits 0 = .ok (.aload_n 0, 1) := by decide +kernel
theorem dX3_allBits_1 : decode cX3_allBits 1 = .ok (.getfield 43, 3) := by decide +kernel
theorem dX3_allBits_4 : decode cX3_allBits 4 = .ok (.ireturn, 1) := by decide +kernel
theorem dX3_howMany_0 : decode cX3_howMany 0 = .ok (.aload_n 0, 1) := by decide +kernel
theorem dX3_howMany_1 : decode cX3_howMany 1 = .ok (.getfield 57, 3) := by decide +kernel
theorem dX3_howMany_4 : decode cX3_howMany 4 = .ok (.ireturn, 1) := by decide +kernel
theorem dX3_nth_0 : decode cX3_nth 0 = .ok (.iload_n 1, 1) := by decide +kernel
theorem dX3_nth_1 : decode cX3_nth 1 = .ok (.ifCond .lt 27, 3) := by decide +kernel
theorem dX3_nth_4 : decode cX3_nth 4 = .ok (.iload_n 1, 1) := by decide +kernel
theorem dX3_nth_5 : decode cX3_nth 5 = .ok (.aload_n 0, 1) := by decide +kernel
theorem dX3_nth_6 : decode cX3_nth 6 = .ok (.getfield 57, 3) := by decide +kernel
theorem dX3_nth_9 : decode cX3_nth 9 = .ok (.if_icmp .ge 19, 3) := by decide +kernel
theorem dX3_nth_12 : decode cX3_nth 12 = .ok (.iload_n 1, 1) := by decide +kernel
theorem dX3_nth_13 : decode cX3_nth 13 = .ok (.sipush 1024, 3) := by decide +kernel
theorem dX3_nth_16 : decode cX3_nth 16 = .ok (.if_icmp .ge 12, 3) := by decide +kernel
theorem dX3_nth_19 : decode cX3_nth 19 = .ok (.aload_n 0, 1) := by decide +kernel
theorem dX3_nth_20 : decode cX3_nth 20 = .ok (.getfield 15, 3) := by decide +kernel
theorem dX3_nth_23 : decode cX3_nth 23 = .ok (.iload_n 1, 1) := by decide +kernel
theorem dX3_nth_24 : decode cX3_nth 24 = .ok (.iaload, 1) := by decide +kernel
theorem dX3_nth_25 : decode cX3_nth 25 = .ok (.goto 4, 3) := by decide +kernel
theorem dX3_nth_28 : decode cX3_nth 28 = .ok (.iconst (-1), 1) := by decide +kernel
theorem dX3_nth_29 : decode cX3_nth 29 = .ok (.ireturn, 1) := by decide +kernel
theorem dX3_inAll_0 : decode cX3_inAll 0 = .ok (.aload_n 0, 1) := by decide +kernel
theorem dX3_inAll_1 : decode cX3_inAll 1 = .ok (.getfield 43, 3) := by decide +kernel
theorem dX3_inAll_4 : decode cX3_inAll 4 = .ok (.istore_n 1, 1) := by decide +kernel
theorem dX3_inAll_5 : decode cX3_inAll 5 = .ok (.iconst 0, 1) := by decide +kernel
theorem dX3_inAll_6 : decode cX3_inAll 6 = .ok (.istore_n 2, 1) := by decide +kernel
theorem dX3_inAll_7 : decode cX3_inAll 7 = .ok (.iload_n 2, 1) := by decide +kernel
theorem dX3_inAll_8 : decode cX3_inAll 8 = .ok (.aload_n 0, 1) := by decide +kernel
theorem dX3_inAll_9 : decode cX3_inAll 9 = .ok (.getfield 57, 3) := by decide +kernel
theorem dX3_inAll_12 : decode cX3_inAll 12 = .ok (.if_icmp .ge 18, 3) := by decide +kernel
theorem dX3_inAll_15 : decode cX3_inAll 15 = .ok (.iload_n 1, 1) := by decide +kernel
theorem dX3_inAll_16 : decode cX3_inAll 16 = .ok (.aload_n 0, 1) := by decide +kernel
theorem dX3_inAll_17 : decode cX3_inAll 17 = .ok (.getfield 15, 3) := by decide +kernel
theorem dX3_inAll_20 : decode cX3_inAll 20 = .ok (.iload_n 2, 1) := by decide +kernel
theorem dX3_inAll_21 : decode cX3_inAll 21 = .ok (.iaload, 1) := by decide +kernel
theorem dX3_inAll_22 : decode cX3_inAll 22 = .ok (.iand, 1) := by decide +kernel
theorem dX3_inAll_23 : decode cX3_inAll 23 = .ok (.istore_n 1, 1) := by decide +kernel
theorem dX3_inAll_24 : decode cX3_inAll 24 = .ok (.iinc 2 1, 3) := by decide +kernel
theorem dX3_inAll_27 : decode cX3_inAll 27 = .ok (.goto (-20), 3) := by decide +kernel
theorem dX3_inAll_30 : decode cX3_inAll 30 = .ok (.iload_n 1, 1) := by decide +kernel
theorem dX3_inAll_31 : decode cX3_inAll 31 = .ok (.ireturn, 1) := by decide +kernel
theorem dX3_inNone_0 : decode cX3_inNone 0 = .ok (.aload_n 0, 1) := by decide +kernel
theorem dX3_inNone_1 : decode cX3_inNone 1 = .ok (.getfield 43, 3) := by decide +kernel
theorem dX3_inNone_4 : decode cX3_inNone 4 = .ok (.istore_n 1, 1) := by decide +kernel
theorem dX3_inNone_5 : decode cX3_inNone 5 = .ok (.iconst 0, 1) := by decide +kernel
theorem dX3_inNone_6 : decode cX3_inNone 6 = .ok (.istore_n 2, 1) := by decide +kernel
theorem dX3_inNone_7 : decode cX3_inNone 7 = .ok (.iload_n 2, 1) := by decide +kernel
theorem dX3_inNone_8 : decode cX3_inNone 8 = .ok (.aload_n 0, 1) := by decide +kernel
theorem dX3_inNone_9 : decode cX3_inNone 9 = .ok (.getfield 57, 3) := by decide +kernel
theorem dX3_inNone_12 : decode cX3_inNone 12 = .ok (.if_icmp .ge 20, 3) := by decide +kernel
theorem dX3_inNone_15 : decode cX3_inNone 15 = .ok (.iload_n 1, 1) := by decide +kernel
theorem dX3_inNone_16 : decode cX3_inNone 16 = .ok (.aload_n 0, 1) := by decide +kernel
theorem dX3_inNone_17 : decode cX3_inNone 17 = .ok (.getfield 15, 3) := by decide +kernel
theorem dX3_inNone_20 : decode cX3_inNone 20 = .ok (.iload_n 2, 1) := by decide +kernel
theorem dX3_inNone_21 : decode cX3_inNone 21 = .ok (.iaload, 1) := by decide +kernel
theorem dX3_inNone_22 : decode cX3_inNone 22 = .ok (.iconst (-1), 1) := by decide +kernel
theorem dX3_inNone_23 : decode cX3_inNone 23 = .ok (.ixor, 1) := by decide +kernel
theorem dX3_inNone_24 : decode cX3_inNone 24 = .ok (.iand, 1) := by decide +kernel
theorem dX3_inNone_25 : decode cX3_inNone 25 = .ok (.istore_n 1, 1) := by decide +kernel
theorem dX3_inNone_26 : decode cX3_inNone 26 = .ok (.iinc 2 1, 3) := by decide +kernel
theorem dX3_inNone_29 : decode cX3_inNone 29 = .ok (.goto (-22), 3) := by decide +kernel
theorem dX3_inNone_32 : decode cX3_inNone 32 = .ok (.iload_n 1, 1) := by decide +kernel
theorem dX3_inNone_33 : decode cX3_inNone 33 = .ok (.ireturn, 1) := by decide +kernel
theorem dX3_fewestClashing_0 : decode cX3_fewestClashing 0 = .ok (.aload_n 0, 1) := by decide +kernel
theorem dX3_fewestClashing_1 : decode cX3_fewestClashing 1 = .ok (.getfield 57, 3) := by decide +kernel
theorem dX3_fewestClashing_4 : decode cX3_fewestClashing 4 = .ok (.ifCond .le 5, 3) := by decide +kernel
theorem dX3_fewestClashing_7 : decode cX3_fewestClashing 7 = .ok (.iconst (-1), 1) := by decide +kernel
theorem dX3_fewestClashing_8 : decode cX3_fewestClashing 8 = .ok (.ireturn, 1) := by decide +kernel
theorem dX3_fewestClashing_9 : decode cX3_fewestClashing 9 = .ok (.aload_n 0, 1) := by decide +kernel
theorem dX3_fewestClashing_10 : decode cX3_fewestClashing 10 = .ok (.invokevirtual 76, 3) := by decide +kernel
theorem dX3_fewestClashing_13 : decode cX3_fewestClashing 13 = .ok (.iconst (-1), 1) := by decide +kernel
theorem dX3_fewestClashing_14 : decode cX3_fewestClashing 14 = .ok (.istore_n 1, 1) := by decide +kernel
theorem dX3_fewestClashing_15 : decode cX3_fewestClashing 15 = .ok (.iconst 0, 1) := by decide +kernel
theorem dX3_fewestClashing_16 : decode cX3_fewestClashing 16 = .ok (.istore_n 2, 1) := by decide +kernel
theorem dX3_fewestClashing_17 : decode cX3_fewestClashing 17 = .ok (.iload_n 2, 1) := by decide +kernel
theorem dX3_fewestClashing_18 : decode cX3_fewestClashing 18 = .ok (.aload_n 0, 1) := by decide +kernel
theorem dX3_fewestClashing_19 : decode cX3_fewestClashing 19 = .ok (.getfield 43, 3) := by decide +kernel
theorem dX3_fewestClashing_22 : decode cX3_fewestClashing 22 = .ok (.if_icmp .gt 53, 3) := by decide +kernel
theorem dX3_fewestClashing_25 : decode cX3_fewestClashing 25 = .ok (.aload_n 0, 1) := by decide +kernel
theorem dX3_fewestClashing_26 : decode cX3_fewestClashing 26 = .ok (.getfield 18, 3) := by decide +kernel
theorem dX3_fewestClashing_29 : decode cX3_fewestClashing 29 = .ok (.aload_n 0, 1) := by decide +kernel
theorem dX3_fewestClashing_30 : decode cX3_fewestClashing 30 = .ok (.getfield 43, 3) := by decide +kernel
theorem dX3_fewestClashing_33 : decode cX3_fewestClashing 33 = .ok (.iload_n 2, 1) := by decide +kernel
theorem dX3_fewestClashing_34 : decode cX3_fewestClashing 34 = .ok (.iconst (-1), 1) := by decide +kernel
theorem dX3_fewestClashing_35 : decode cX3_fewestClashing 35 = .ok (.ixor, 1) := by decide +kernel
theorem dX3_fewestClashing_36 : decode cX3_fewestClashing 36 = .ok (.iand, 1) := by decide +kernel
theorem dX3_fewestClashing_37 : decode cX3_fewestClashing 37 = .ok (.iaload, 1) := by decide +kernel
theorem dX3_fewestClashing_38 : decode cX3_fewestClashing 38 = .ok (.ifCond .ne 7, 3) := by decide +kernel
theorem dX3_fewestClashing_41 : decode cX3_fewestClashing 41 = .ok (.iconst 1, 1) := by decide +kernel
theorem dX3_fewestClashing_42 : decode cX3_fewestClashing 42 = .ok (.goto 4, 3) := by decide +kernel
theorem dX3_fewestClashing_45 : decode cX3_fewestClashing 45 = .ok (.iconst 0, 1) := by decide +kernel
theorem dX3_fewestClashing_46 : decode cX3_fewestClashing 46 = .ok (.istore_n 3, 1) := by decide +kernel
theorem dX3_fewestClashing_47 : decode cX3_fewestClashing 47 = .ok (.iload_n 3, 1) := by decide +kernel
theorem dX3_fewestClashing_48 : decode cX3_fewestClashing 48 = .ok (.ifCond .eq 21, 3) := by decide +kernel
theorem dX3_fewestClashing_51 : decode cX3_fewestClashing 51 = .ok (.iload_n 1, 1) := by decide +kernel
theorem dX3_fewestClashing_52 : decode cX3_fewestClashing 52 = .ok (.iconst (-1), 1) := by decide +kernel
theorem dX3_fewestClashing_53 : decode cX3_fewestClashing 53 = .ok (.if_icmp .eq 14, 3) := by decide +kernel
theorem dX3_fewestClashing_56 : decode cX3_fewestClashing 56 = .ok (.iload_n 2, 1) := by decide +kernel
theorem dX3_fewestClashing_57 : decode cX3_fewestClashing 57 = .ok (.invokestatic 79, 3) := by decide +kernel
theorem dX3_fewestClashing_60 : decode cX3_fewestClashing 60 = .ok (.iload_n 1, 1) := by decide +kernel
theorem dX3_fewestClashing_61 : decode cX3_fewestClashing 61 = .ok (.invokestatic 79, 3) := by decide +kernel
theorem dX3_fewestClashing_64 : decode cX3_fewestClashing 64 = .ok (.if_icmp .ge 5, 3) := by decide +kernel
theorem dX3_fewestClashing_67 : decode cX3_fewestClashing 67 = .ok (.iload_n 2, 1) := by decide +kernel
theorem dX3_fewestClashing_68 : decode cX3_fewestClashing 68 = .ok (.istore_n 1, 1) := by decide +kernel
theorem dX3_fewestClashing_69 : decode cX3_fewestClashing 69 = .ok (.iinc 2 1, 3) := by decide +kernel
theorem dX3_fewestClashing_72 : decode cX3_fewestClashing 72 = .ok (.goto (-55), 3) := by decide +kernel
theorem dX3_fewestClashing_75 : decode cX3_fewestClashing 75 = .ok (.iload_n 1, 1) := by decide +kernel
theorem dX3_fewestClashing_76 : decode cX3_fewestClashing 76 = .ok (.ireturn, 1) := by decide +kernel
theorem dX3_markBreakable_0 : decode cX3_markBreakable 0 = .ok (.aload_n 0, 1) := by decide +kernel
theorem dX3_markBreakable_1 : decode cX3_markBreakable 1 = .ok (.iconst 0, 1) := by decide +kernel
theorem dX3_markBreakable_2 : decode cX3_markBreakable 2 = .ok (.invokevirtual 85, 3) := by decide +kernel
theorem dX3_markBreakable_5 : decode cX3_markBreakable 5 = .ok (.iconst 0, 1) := by decide +kernel
theorem dX3_markBreakable_6 : decode cX3_markBreakable 6 = .ok (.istore_n 1, 1) := by decide +kernel
theorem dX3_markBreakable_7 : decode cX3_markBreakable 7 = .ok (.iload_n 1, 1) := by decide +kernel
theorem dX3_markBreakable_8 : decode cX3_markBreakable 8 = .ok (.aload_n 0, 1) := by decide +kernel
theorem dX3_markBreakable_9 : decode cX3_markBreakable 9 = .ok (.getfield 43, 3) := by decide +kernel
theorem dX3_markBreakable_12 : decode cX3_markBreakable 12 = .ok (.if_icmp .gt 26, 3) := by decide +kernel
theorem dX3_markBreakable_15 : decode cX3_markBreakable 15 = .ok (.aload_n 0, 1) := by decide +kernel
theorem dX3_markBreakable_16 : decode cX3_markBreakable 16 = .ok (.getfield 18, 3) := by decide +kernel
theorem dX3_markBreakable_19 : decode cX3_markBreakable 19 = .ok (.aload_n 0, 1) := by decide +kernel
theorem dX3_markBreakable_20 : decode cX3_markBreakable 20 = .ok (.getfield 9, 3) := by decide +kernel
theorem dX3_markBreakable_23 : decode cX3_markBreakable 23 = .ok (.iload_n 1, 1) := by decide +kernel
theorem dX3_markBreakable_24 : decode cX3_markBreakable 24 = .ok (.iaload, 1) := by decide +kernel
theorem dX3_markBreakable_25 : decode cX3_markBreakable 25 = .ok (.aload_n 0, 1) := by decide +kernel
theorem dX3_markBreakable_26 : decode cX3_markBreakable 26 = .ok (.getfield 43, 3) := by decide +kernel
theorem dX3_markBreakable_29 : decode cX3_markBreakable 29 = .ok (.iand, 1) := by decide +kernel
theorem dX3_markBreakable_30 : decode cX3_markBreakable 30 = .ok (.iconst 1, 1) := by decide +kernel
theorem dX3_markBreakable_31 : decode cX3_markBreakable 31 = .ok (.iastore, 1) := by decide +kernel
theorem dX3_markBreakable_32 : decode cX3_markBreakable 32 = .ok (.iinc 1 1, 3) := by decide +kernel
theorem dX3_markBreakable_35 : decode cX3_markBreakable 35 = .ok (.goto (-28), 3) := by decide +kernel
theorem dX3_markBreakable_38 : decode cX3_markBreakable 38 = .ok (.iconst 0, 1) := by decide +kernel
theorem dX3_markBreakable_39 : decode cX3_markBreakable 39 = .ok (.istore_n 1, 1) := by decide +kernel
theorem dX3_markBreakable_40 : decode cX3_markBreakable 40 = .ok (.iload_n 1, 1) := by decide +kernel
theorem dX3_markBreakable_41 : decode cX3_markBreakable 41 = .ok (.aload_n 0, 1) := by decide +kernel
theorem dX3_markBreakable_42 : decode cX3_markBreakable 42 = .ok (.getfield 39, 3) := by decide +kernel
theorem dX3_markBreakable_45 : decode cX3_markBreakable 45 = .ok (.if_icmp .ge 56, 3) := by decide +kernel
theorem dX3_markBreakable_48 : decode cX3_markBreakable 48 = .ok (.iconst 1, 1) := by decide +kernel
theorem dX3_markBreakable_49 : decode cX3_markBreakable 49 = .ok (.iload_n 1, 1) := by decide +kernel
theorem dX3_markBreakable_50 : decode cX3_markBreakable 50 = .ok (.ishl, 1) := by decide +kernel
theorem dX3_markBreakable_51 : decode cX3_markBreakable 51 = .ok (.istore_n 2, 1) := by decide +kernel
theorem dX3_markBreakable_52 : decode cX3_markBreakable 52 = .ok (.iconst 0, 1) := by decide +kernel
theorem dX3_markBreakable_53 : decode cX3_markBreakable 53 = .ok (.istore_n 3, 1) := by decide +kernel
theorem dX3_markBreakable_54 : decode cX3_markBreakable 54 = .ok (.iload_n 3, 1) := by decide +kernel
theorem dX3_markBreakable_55 : decode cX3_markBreakable 55 = .ok (.aload_n 0, 1) := by decide +kernel
theorem dX3_markBreakable_56 : decode cX3_markBreakable 56 = .ok (.getfield 43, 3) := by decide +kernel
theorem dX3_markBreakable_59 : decode cX3_markBreakable 59 = .ok (.if_icmp .gt 36, 3) := by decide +kernel
theorem dX3_markBreakable_62 : decode cX3_markBreakable 62 = .ok (.iload_n 3, 1) := by decide +kernel
theorem dX3_markBreakable_63 : decode cX3_markBreakable 63 = .ok (.iload_n 2, 1) := by decide +kernel
theorem dX3_markBreakable_64 : decode cX3_markBreakable 64 = .ok (.iand, 1) := by decide +kernel
theorem dX3_markBreakable_65 : decode cX3_markBreakable 65 = .ok (.ifCond .eq 24, 3) := by decide +kernel
theorem dX3_markBreakable_68 : decode cX3_markBreakable 68 = .ok (.aload_n 0, 1) := by decide +kernel
theorem dX3_markBreakable_69 : decode cX3_markBreakable 69 = .ok (.getfield 18, 3) := by decide +kernel
theorem dX3_markBreakable_72 : decode cX3_markBreakable 72 = .ok (.iload_n 3, 1) := by decide +kernel
theorem dX3_markBreakable_73 : decode cX3_markBreakable 73 = .ok (.iload_n 2, 1) := by decide +kernel
theorem dX3_markBreakable_74 : decode cX3_markBreakable 74 = .ok (.iconst (-1), 1) := by decide +kernel
theorem dX3_markBreakable_75 : decode cX3_markBreakable 75 = .ok (.ixor, 1) := by decide +kernel
theorem dX3_markBreakable_76 : decode cX3_markBreakable 76 = .ok (.iand, 1) := by decide +kernel
theorem dX3_markBreakable_77 : decode cX3_markBreakable 77 = .ok (.iaload, 1) := by decide +kernel
theorem dX3_markBreakable_78 : decode cX3_markBreakable 78 = .ok (.iconst 1, 1) := by decide +kernel
theorem dX3_markBreakable_79 : decode cX3_markBreakable 79 = .ok (.if_icmp .ne 10, 3) := by decide +kernel
theorem dX3_markBreakable_82 : decode cX3_markBreakable 82 = .ok (.aload_n 0, 1) := by decide +kernel
theorem dX3_markBreakable_83 : decode cX3_markBreakable 83 = .ok (.getfield 18, 3) := by decide +kernel
theorem dX3_markBreakable_86 : decode cX3_markBreakable 86 = .ok (.iload_n 3, 1) := by decide +kernel
theorem dX3_markBreakable_87 : decode cX3_markBreakable 87 = .ok (.iconst 1, 1) := by decide +kernel
theorem dX3_markBreakable_88 : decode cX3_markBreakable 88 = .ok (.iastore, 1) := by decide +kernel
theorem dX3_markBreakable_89 : decode cX3_markBreakable 89 = .ok (.iinc 3 1, 3) := by decide +kernel
theorem dX3_markBreakable_92 : decode cX3_markBreakable 92 = .ok (.goto (-38), 3) := by decide +kernel
theorem dX3_markBreakable_95 : decode cX3_markBreakable 95 = .ok (.iinc 1 1, 3) := by decide +kernel
theorem dX3_markBreakable_98 : decode cX3_markBreakable 98 = .ok (.goto (-58), 3) := by decide +kernel
theorem dX3_markBreakable_101 : decode cX3_markBreakable 101 = .ok (.return_, 1) := by decide +kernel
theorem dX3_fewestBroken_0 : decode cX3_fewestBroken 0 = .ok (.aload_n 0, 1) := by decide +kernel
theorem dX3_fewestBroken_1 : decode cX3_fewestBroken 1 = .ok (.getfield 9, 3) := by decide +kernel
theorem dX3_fewestBroken_4 : decode cX3_fewestBroken 4 = .ok (.iconst 0, 1) := by decide +kernel
theorem dX3_fewestBroken_5 : decode cX3_fewestBroken 5 = .ok (.iaload, 1) := by decide +kernel
theorem dX3_fewestBroken_6 : decode cX3_fewestBroken 6 = .ok (.istore_n 1, 1) := by decide +kernel
theorem dX3_fewestBroken_7 : decode cX3_fewestBroken 7 = .ok (.iconst 1, 1) := by decide +kernel
theorem dX3_fewestBroken_8 : decode cX3_fewestBroken 8 = .ok (.istore_n 2, 1) := by decide +kernel
theorem dX3_fewestBroken_9 : decode cX3_fewestBroken 9 = .ok (.iload_n 2, 1) := by decide +kernel
theorem dX3_fewestBroken_10 : decode cX3_fewestBroken 10 = .ok (.aload_n 0, 1) := by decide +kernel
theorem dX3_fewestBroken_11 : decode cX3_fewestBroken 11 = .ok (.getfield 43, 3) := by decide +kernel
theorem dX3_fewestBroken_14 : decode cX3_fewestBroken 14 = .ok (.if_icmp .gt 49, 3) := by decide +kernel
theorem dX3_fewestBroken_17 : decode cX3_fewestBroken 17 = .ok (.aload_n 0, 1) := by decide +kernel
theorem dX3_fewestBroken_18 : decode cX3_fewestBroken 18 = .ok (.getfield 9, 3) := by decide +kernel
theorem dX3_fewestBroken_21 : decode cX3_fewestBroken 21 = .ok (.iload_n 2, 1) := by decide +kernel
theorem dX3_fewestBroken_22 : decode cX3_fewestBroken 22 = .ok (.iaload, 1) := by decide +kernel
theorem dX3_fewestBroken_23 : decode cX3_fewestBroken 23 = .ok (.invokestatic 79, 3) := by decide +kernel
theorem dX3_fewestBroken_26 : decode cX3_fewestBroken 26 = .ok (.iload_n 1, 1) := by decide +kernel
theorem dX3_fewestBroken_27 : decode cX3_fewestBroken 27 = .ok (.invokestatic 79, 3) := by decide +kernel
theorem dX3_fewestBroken_30 : decode cX3_fewestBroken 30 = .ok (.isub, 1) := by decide +kernel
theorem dX3_fewestBroken_31 : decode cX3_fewestBroken 31 = .ok (.istore_n 3, 1) := by decide +kernel
theorem dX3_fewestBroken_32 : decode cX3_fewestBroken 32 = .ok (.iload_n 3, 1) := by decide +kernel
theorem dX3_fewestBroken_33 : decode cX3_fewestBroken 33 = .ok (.ifCond .lt 17, 3) := by decide +kernel
theorem dX3_fewestBroken_36 : decode cX3_fewestBroken 36 = .ok (.iload_n 3, 1) := by decide +kernel
theorem dX3_fewestBroken_37 : decode cX3_fewestBroken 37 = .ok (.ifCond .ne 20, 3) := by decide +kernel
theorem dX3_fewestBroken_40 : decode cX3_fewestBroken 40 = .ok (.aload_n 0, 1) := by decide +kernel
theorem dX3_fewestBroken_41 : decode cX3_fewestBroken 41 = .ok (.getfield 9, 3) := by decide +kernel
theorem dX3_fewestBroken_44 : decode cX3_fewestBroken 44 = .ok (.iload_n 2, 1) := by decide +kernel
theorem dX3_fewestBroken_45 : decode cX3_fewestBroken 45 = .ok (.iaload, 1) := by decide +kernel
theorem dX3_fewestBroken_46 : decode cX3_fewestBroken 46 = .ok (.iload_n 1, 1) := by decide +kernel
theorem dX3_fewestBroken_47 : decode cX3_fewestBroken 47 = .ok (.if_icmp .ge 10, 3) := by decide +kernel
theorem dX3_fewestBroken_50 : decode cX3_fewestBroken 50 = .ok (.aload_n 0, 1) := by decide +kernel
theorem dX3_fewestBroken_51 : decode cX3_fewestBroken 51 = .ok (.getfield 9, 3) := by decide +kernel
theorem dX3_fewestBroken_54 : decode cX3_fewestBroken 54 = .ok (.iload_n 2, 1) := by decide +kernel
theorem dX3_fewestBroken_55 : decode cX3_fewestBroken 55 = .ok (.iaload, 1) := by decide +kernel
theorem dX3_fewestBroken_56 : decode cX3_fewestBroken 56 = .ok (.istore_n 1, 1) := by decide +kernel
theorem dX3_fewestBroken_57 : decode cX3_fewestBroken 57 = .ok (.iinc 2 1, 3) := by decide +kernel
theorem dX3_fewestBroken_60 : decode cX3_fewestBroken 60 = .ok (.goto (-51), 3) := by decide +kernel
theorem dX3_fewestBroken_63 : decode cX3_fewestBroken 63 = .ok (.iload_n 1, 1) := by decide +kernel
theorem dX3_fewestBroken_64 : decode cX3_fewestBroken 64 = .ok (.ireturn, 1) := by decide +kernel
theorem dX3_brokenBy_0 : decode cX3_brokenBy 0 = .ok (.aload_n 0, 1) := by decide +kernel
theorem dX3_brokenBy_1 : decode cX3_brokenBy 1 = .ok (.getfield 9, 3) := by decide +kernel
theorem dX3_brokenBy_4 : decode cX3_brokenBy 4 = .ok (.iload_n 1, 1) := by decide +kernel
theorem dX3_brokenBy_5 : decode cX3_brokenBy 5 = .ok (.aload_n 0, 1) := by decide +kernel
theorem dX3_brokenBy_6 : decode cX3_brokenBy 6 = .ok (.getfield 43, 3) := by decide +kernel
theorem dX3_brokenBy_9 : decode cX3_brokenBy 9 = .ok (.iand, 1) := by decide +kernel
theorem dX3_brokenBy_10 : decode cX3_brokenBy 10 = .ok (.iaload, 1) := by decide +kernel
theorem dX3_brokenBy_11 : decode cX3_brokenBy 11 = .ok (.ireturn, 1) := by decide +kernel
theorem dX3_closestTo_0 : decode cX3_closestTo 0 = .ok (.iconst (-1), 1) := by decide +kernel
theorem dX3_closestTo_1 : decode cX3_closestTo 1 = .ok (.istore_n 2, 1) := by decide +kernel
theorem dX3_closestTo_2 : decode cX3_closestTo 2 = .ok (.bipush 11, 2) := by decide +kernel
theorem dX3_closestTo_4 : decode cX3_closestTo 4 = .ok (.istore_n 3, 1) := by decide +kernel
theorem dX3_closestTo_5 : decode cX3_closestTo 5 = .ok (.iconst 0, 1) := by decide +kernel
theorem dX3_closestTo_6 : decode cX3_closestTo 6 = .ok (.istore 4, 2) := by decide +kernel
theorem dX3_closestTo_8 : decode cX3_closestTo 8 = .ok (.iload 4, 2) := by decide +kernel
theorem dX3_closestTo_10 : decode cX3_closestTo 10 = .ok (.aload_n 0, 1) := by decide +kernel
theorem dX3_closestTo_11 : decode cX3_closestTo 11 = .ok (.getfield 57, 3) := by decide +kernel
theorem dX3_closestTo_14 : decode cX3_closestTo 14 = .ok (.if_icmp .ge 45, 3) := by decide +kernel
theorem dX3_closestTo_17 : decode cX3_closestTo 17 = .ok (.aload_n 0, 1) := by decide +kernel
theorem dX3_closestTo_18 : decode cX3_closestTo 18 = .ok (.getfield 15, 3) := by decide +kernel
theorem dX3_closestTo_21 : decode cX3_closestTo 21 = .ok (.iload 4, 2) := by decide +kernel
theorem dX3_closestTo_23 : decode cX3_closestTo 23 = .ok (.iaload, 1) := by decide +kernel
theorem dX3_closestTo_24 : decode cX3_closestTo 24 = .ok (.iload_n 1, 1) := by decide +kernel
theorem dX3_closestTo_25 : decode cX3_closestTo 25 = .ok (.aload_n 0, 1) := by decide +kernel
theorem dX3_closestTo_26 : decode cX3_closestTo 26 = .ok (.getfield 43, 3) := by decide +kernel
theorem dX3_closestTo_29 : decode cX3_closestTo 29 = .ok (.iand, 1) := by decide +kernel
theorem dX3_closestTo_30 : decode cX3_closestTo 30 = .ok (.ixor, 1) := by decide +kernel
theorem dX3_closestTo_31 : decode cX3_closestTo 31 = .ok (.invokestatic 79, 3) := by decide +kernel
theorem dX3_closestTo_34 : decode cX3_closestTo 34 = .ok (.istore 5, 2) := by decide +kernel
theorem dX3_closestTo_36 : decode cX3_closestTo 36 = .ok (.iload 5, 2) := by decide +kernel
theorem dX3_closestTo_38 : decode cX3_closestTo 38 = .ok (.iload_n 3, 1) := by decide +kernel
theorem dX3_closestTo_39 : decode cX3_closestTo 39 = .ok (.if_icmp .ge 14, 3) := by decide +kernel
theorem dX3_closestTo_42 : decode cX3_closestTo 42 = .ok (.aload_n 0, 1) := by decide +kernel
theorem dX3_closestTo_43 : decode cX3_closestTo 43 = .ok (.getfield 15, 3) := by decide +kernel
theorem dX3_closestTo_46 : decode cX3_closestTo 46 = .ok (.iload 4, 2) := by decide +kernel
theorem dX3_closestTo_48 : decode cX3_closestTo 48 = .ok (.iaload, 1) := by decide +kernel
theorem dX3_closestTo_49 : decode cX3_closestTo 49 = .ok (.istore_n 2, 1) := by decide +kernel
theorem dX3_closestTo_50 : decode cX3_closestTo 50 = .ok (.iload 5, 2) := by decide +kernel
theorem dX3_closestTo_52 : decode cX3_closestTo 52 = .ok (.istore_n 3, 1) := by decide +kernel
theorem dX3_closestTo_53 : decode cX3_closestTo 53 = .ok (.iinc 4 1, 3) := by decide +kernel
theorem dX3_closestTo_56 : decode cX3_closestTo 56 = .ok (.goto (-48), 3) := by decide +kernel
theorem dX3_closestTo_59 : decode cX3_closestTo 59 = .ok (.iload_n 2, 1) := by decide +kernel
theorem dX3_closestTo_60 : decode cX3_closestTo 60 = .ok (.ireturn, 1) := by decide +kernel
theorem dX3_behindSteps_0 : decode cX3_behindSteps 0 = .ok (.iload_n 1, 1) := by decide +kernel
theorem dX3_behindSteps_1 : decode cX3_behindSteps 1 = .ok (.aload_n 0, 1) := by decide +kernel
theorem dX3_behindSteps_2 : decode cX3_behindSteps 2 = .ok (.getfield 43, 3) := by decide +kernel
theorem dX3_behindSteps_5 : decode cX3_behindSteps 5 = .ok (.iand, 1) := by decide +kernel
theorem dX3_behindSteps_6 : decode cX3_behindSteps 6 = .ok (.istore_n 3, 1) := by decide +kernel
theorem dX3_behindSteps_7 : decode cX3_behindSteps 7 = .ok (.iconst 0, 1) := by decide +kernel
theorem dX3_behindSteps_8 : decode cX3_behindSteps 8 = .ok (.istore 4, 2) := by decide +kernel
theorem dX3_behindSteps_10 : decode cX3_behindSteps 10 = .ok (.iload 4, 2) := by decide +kernel
theorem dX3_behindSteps_12 : decode cX3_behindSteps 12 = .ok (.iload_n 2, 1) := by decide +kernel
theorem dX3_behindSteps_13 : decode cX3_behindSteps 13 = .ok (.if_icmp .ge 18, 3) := by decide +kernel
theorem dX3_behindSteps_16 : decode cX3_behindSteps 16 = .ok (.iload_n 3, 1) := by decide +kernel
theorem dX3_behindSteps_17 : decode cX3_behindSteps 17 = .ok (.aload_n 0, 1) := by decide +kernel
theorem dX3_behindSteps_18 : decode cX3_behindSteps 18 = .ok (.getfield 9, 3) := by decide +kernel
theorem dX3_behindSteps_21 : decode cX3_behindSteps 21 = .ok (.iload_n 3, 1) := by decide +kernel
theorem dX3_behindSteps_22 : decode cX3_behindSteps 22 = .ok (.iaload, 1) := by decide +kernel
theorem dX3_behindSteps_23 : decode cX3_behindSteps 23 = .ok (.ixor, 1) := by decide +kernel
theorem dX3_behindSteps_24 : decode cX3_behindSteps 24 = .ok (.istore_n 3, 1) := by decide +kernel
theorem dX3_behindSteps_25 : decode cX3_behindSteps 25 = .ok (.iinc 4 1, 3) := by decide +kernel
theorem dX3_behindSteps_28 : decode cX3_behindSteps 28 = .ok (.goto (-18), 3) := by decide +kernel
theorem dX3_behindSteps_31 : decode cX3_behindSteps 31 = .ok (.iload_n 3, 1) := by decide +kernel
theorem dX3_behindSteps_32 : decode cX3_behindSteps 32 = .ok (.ireturn, 1) := by decide +kernel
theorem dX3_stepsToReturn_0 : decode cX3_stepsToReturn 0 = .ok (.aload_n 0, 1) := by decide +kernel
theorem dX3_stepsToReturn_1 : decode cX3_stepsToReturn 1 = .ok (.iconst (-1), 1) := by decide +kernel
theorem dX3_stepsToReturn_2 : decode cX3_stepsToReturn 2 = .ok (.invokevirtual 85, 3) := by decide +kernel
theorem dX3_stepsToReturn_5 : decode cX3_stepsToReturn 5 = .ok (.iload_n 1, 1) := by decide +kernel
theorem dX3_stepsToReturn_6 : decode cX3_stepsToReturn 6 = .ok (.aload_n 0, 1) := by decide +kernel
theorem dX3_stepsToReturn_7 : decode cX3_stepsToReturn 7 = .ok (.getfield 43, 3) := by decide +kernel
theorem dX3_stepsToReturn_10 : decode cX3_stepsToReturn 10 = .ok (.iand, 1) := by decide +kernel
theorem dX3_stepsToReturn_11 : decode cX3_stepsToReturn 11 = .ok (.istore_n 3, 1) := by decide +kernel
theorem dX3_stepsToReturn_12 : decode cX3_stepsToReturn 12 = .ok (.iconst 0, 1) := by decide +kernel
theorem dX3_stepsToReturn_13 : decode cX3_stepsToReturn 13 = .ok (.istore 4, 2) := by decide +kernel
theorem dX3_stepsToReturn_15 : decode cX3_stepsToReturn 15 = .ok (.iload 4, 2) := by decide +kernel
theorem dX3_stepsToReturn_17 : decode cX3_stepsToReturn 17 = .ok (.sipush 1024, 3) := by decide +kernel
theorem dX3_stepsToReturn_20 : decode cX3_stepsToReturn 20 = .ok (.if_icmp .gt 36, 3) := by decide +kernel
theorem dX3_stepsToReturn_23 : decode cX3_stepsToReturn 23 = .ok (.aload_n 0, 1) := by decide +kernel
theorem dX3_stepsToReturn_24 : decode cX3_stepsToReturn 24 = .ok (.getfield 18, 3) := by decide +kernel
theorem dX3_stepsToReturn_27 : decode cX3_stepsToReturn 27 = .ok (.iload_n 3, 1) := by decide +kernel
theorem dX3_stepsToReturn_28 : decode cX3_stepsToReturn 28 = .ok (.iaload, 1) := by decide +kernel
theorem dX3_stepsToReturn_29 : decode cX3_stepsToReturn 29 = .ok (.iconst (-1), 1) := by decide +kernel
theorem dX3_stepsToReturn_30 : decode cX3_stepsToReturn 30 = .ok (.if_icmp .ne 26, 3) := by decide +kernel
theorem dX3_stepsToReturn_33 : decode cX3_stepsToReturn 33 = .ok (.aload_n 0, 1) := by decide +kernel
theorem dX3_stepsToReturn_34 : decode cX3_stepsToReturn 34 = .ok (.getfield 18, 3) := by decide +kernel
theorem dX3_stepsToReturn_37 : decode cX3_stepsToReturn 37 = .ok (.iload_n 3, 1) := by decide +kernel
theorem dX3_stepsToReturn_38 : decode cX3_stepsToReturn 38 = .ok (.iload 4, 2) := by decide +kernel
theorem dX3_stepsToReturn_40 : decode cX3_stepsToReturn 40 = .ok (.iastore, 1) := by decide +kernel
theorem dX3_stepsToReturn_41 : decode cX3_stepsToReturn 41 = .ok (.iload_n 3, 1) := by decide +kernel
theorem dX3_stepsToReturn_42 : decode cX3_stepsToReturn 42 = .ok (.aload_n 0, 1) := by decide +kernel
theorem dX3_stepsToReturn_43 : decode cX3_stepsToReturn 43 = .ok (.getfield 9, 3) := by decide +kernel
theorem dX3_stepsToReturn_46 : decode cX3_stepsToReturn 46 = .ok (.iload_n 3, 1) := by decide +kernel
theorem dX3_stepsToReturn_47 : decode cX3_stepsToReturn 47 = .ok (.iaload, 1) := by decide +kernel
theorem dX3_stepsToReturn_48 : decode cX3_stepsToReturn 48 = .ok (.ixor, 1) := by decide +kernel
theorem dX3_stepsToReturn_49 : decode cX3_stepsToReturn 49 = .ok (.istore_n 3, 1) := by decide +kernel
theorem dX3_stepsToReturn_50 : decode cX3_stepsToReturn 50 = .ok (.iinc 4 1, 3) := by decide +kernel
theorem dX3_stepsToReturn_53 : decode cX3_stepsToReturn 53 = .ok (.goto (-38), 3) := by decide +kernel
theorem dX3_stepsToReturn_56 : decode cX3_stepsToReturn 56 = .ok (.iload_n 2, 1) := by decide +kernel
theorem dX3_stepsToReturn_57 : decode cX3_stepsToReturn 57 = .ok (.ifCond .eq 15, 3) := by decide +kernel
theorem dX3_stepsToReturn_60 : decode cX3_stepsToReturn 60 = .ok (.iload 4, 2) := by decide +kernel
theorem dX3_stepsToReturn_62 : decode cX3_stepsToReturn 62 = .ok (.aload_n 0, 1) := by decide +kernel
theorem dX3_stepsToReturn_63 : decode cX3_stepsToReturn 63 = .ok (.getfield 18, 3) := by decide +kernel
theorem dX3_stepsToReturn_66 : decode cX3_stepsToReturn 66 = .ok (.iload_n 3, 1) := by decide +kernel
theorem dX3_stepsToReturn_67 : decode cX3_stepsToReturn 67 = .ok (.iaload, 1) := by decide +kernel
theorem dX3_stepsToReturn_68 : decode cX3_stepsToReturn 68 = .ok (.isub, 1) := by decide +kernel
theorem dX3_stepsToReturn_69 : decode cX3_stepsToReturn 69 = .ok (.goto 5, 3) := by decide +kernel
theorem dX3_stepsToReturn_72 : decode cX3_stepsToReturn 72 = .ok (.iload 4, 2) := by decide +kernel
theorem dX3_stepsToReturn_74 : decode cX3_stepsToReturn 74 = .ok (.ireturn, 1) := by decide +kernel
theorem dX3_fillMarks_0 : decode cX3_fillMarks 0 = .ok (.iconst 0, 1) := by decide +kernel
theorem dX3_fillMarks_1 : decode cX3_fillMarks 1 = .ok (.istore_n 2, 1) := by decide +kernel
theorem dX3_fillMarks_2 : decode cX3_fillMarks 2 = .ok (.iload_n 2, 1) := by decide +kernel
theorem dX3_fillMarks_3 : decode cX3_fillMarks 3 = .ok (.aload_n 0, 1) := by decide +kernel
theorem dX3_fillMarks_4 : decode cX3_fillMarks 4 = .ok (.getfield 43, 3) := by decide +kernel
theorem dX3_fillMarks_7 : decode cX3_fillMarks 7 = .ok (.if_icmp .gt 16, 3) := by decide +kernel
theorem dX3_fillMarks_10 : decode cX3_fillMarks 10 = .ok (.aload_n 0, 1) := by decide +kernel
theorem dX3_fillMarks_11 : decode cX3_fillMarks 11 = .ok (.getfield 18, 3) := by decide +kernel
theorem dX3_fillMarks_14 : decode cX3_fillMarks 14 = .ok (.iload_n 2, 1) := by decide +kernel
theorem dX3_fillMarks_15 : decode cX3_fillMarks 15 = .ok (.iload_n 1, 1) := by decide +kernel
theorem dX3_fillMarks_16 : decode cX3_fillMarks 16 = .ok (.iastore, 1) := by decide +kernel
theorem dX3_fillMarks_17 : decode cX3_fillMarks 17 = .ok (.iinc 2 1, 3) := by decide +kernel
theorem dX3_fillMarks_20 : decode cX3_fillMarks 20 = .ok (.goto (-18), 3) := by decide +kernel
theorem dX3_fillMarks_23 : decode cX3_fillMarks 23 = .ok (.return_, 1) := by decide +kernel
theorem dX3_hangingOn_0 : decode cX3_hangingOn 0 = .ok (.iconst 0, 1) := by decide +kernel
theorem dX3_hangingOn_1 : decode cX3_hangingOn 1 = .ok (.istore_n 2, 1) := by decide +kernel
theorem dX3_hangingOn_2 : decode cX3_hangingOn 2 = .ok (.iload_n 1, 1) := by decide +kernel
theorem dX3_hangingOn_3 : decode cX3_hangingOn 3 = .ok (.istore_n 3, 1) := by decide +kernel
theorem dX3_hangingOn_4 : decode cX3_hangingOn 4 = .ok (.iconst 0, 1) := by decide +kernel
theorem dX3_hangingOn_5 : decode cX3_hangingOn 5 = .ok (.istore 4, 2) := by decide +kernel
theorem dX3_hangingOn_7 : decode cX3_hangingOn 7 = .ok (.iload 4, 2) := by decide +kernel
theorem dX3_hangingOn_9 : decode cX3_hangingOn 9 = .ok (.aload_n 0, 1) := by decide +kernel
theorem dX3_hangingOn_10 : decode cX3_hangingOn 10 = .ok (.getfield 39, 3) := by decide +kernel
theorem dX3_hangingOn_13 : decode cX3_hangingOn 13 = .ok (.if_icmp .ge 38, 3) := by decide +kernel
theorem dX3_hangingOn_16 : decode cX3_hangingOn 16 = .ok (.iload_n 3, 1) := by decide +kernel
theorem dX3_hangingOn_17 : decode cX3_hangingOn 17 = .ok (.ifCond .lt 34, 3) := by decide +kernel
theorem dX3_hangingOn_20 : decode cX3_hangingOn 20 = .ok (.iload_n 3, 1) := by decide +kernel
theorem dX3_hangingOn_21 : decode cX3_hangingOn 21 = .ok (.aload_n 0, 1) := by decide +kernel
theorem dX3_hangingOn_22 : decode cX3_hangingOn 22 = .ok (.getfield 39, 3) := by decide +kernel
theorem dX3_hangingOn_25 : decode cX3_hangingOn 25 = .ok (.if_icmp .ge 26, 3) := by decide +kernel
theorem dX3_hangingOn_28 : decode cX3_hangingOn 28 = .ok (.aload_n 0, 1) := by decide +kernel
theorem dX3_hangingOn_29 : decode cX3_hangingOn 29 = .ok (.getfield 21, 3) := by decide +kernel
theorem dX3_hangingOn_32 : decode cX3_hangingOn 32 = .ok (.iload_n 3, 1) := by decide +kernel
theorem dX3_hangingOn_33 : decode cX3_hangingOn 33 = .ok (.iaload, 1) := by decide +kernel
theorem dX3_hangingOn_34 : decode cX3_hangingOn 34 = .ok (.istore_n 3, 1) := by decide +kernel
theorem dX3_hangingOn_35 : decode cX3_hangingOn 35 = .ok (.iload_n 3, 1) := by decide +kernel
theorem dX3_hangingOn_36 : decode cX3_hangingOn 36 = .ok (.ifCond .lt 9, 3) := by decide +kernel
theorem dX3_hangingOn_39 : decode cX3_hangingOn 39 = .ok (.iload_n 2, 1) := by decide +kernel
theorem dX3_hangingOn_40 : decode cX3_hangingOn 40 = .ok (.iconst 1, 1) := by decide +kernel
theorem dX3_hangingOn_41 : decode cX3_hangingOn 41 = .ok (.iload_n 3, 1) := by decide +kernel
theorem dX3_hangingOn_42 : decode cX3_hangingOn 42 = .ok (.ishl, 1) := by decide +kernel
theorem dX3_hangingOn_43 : decode cX3_hangingOn 43 = .ok (.ior, 1) := by decide +kernel
theorem dX3_hangingOn_44 : decode cX3_hangingOn 44 = .ok (.istore_n 2, 1) := by decide +kernel
theorem dX3_hangingOn_45 : decode cX3_hangingOn 45 = .ok (.iinc 4 1, 3) := by decide +kernel
theorem dX3_hangingOn_48 : decode cX3_hangingOn 48 = .ok (.goto (-41), 3) := by decide +kernel
theorem dX3_hangingOn_51 : decode cX3_hangingOn 51 = .ok (.iload_n 2, 1) := by decide +kernel
theorem dX3_hangingOn_52 : decode cX3_hangingOn 52 = .ok (.ireturn, 1) := by decide +kernel
theorem dX3_inRings_0 : decode cX3_inRings 0 = .ok (.iconst 0, 1) := by decide +kernel
theorem dX3_inRings_1 : decode cX3_inRings 1 = .ok (.istore_n 1, 1) := by decide +kernel
theorem dX3_inRings_2 : decode cX3_inRings 2 = .ok (.iconst 0, 1) := by decide +kernel
theorem dX3_inRings_3 : decode cX3_inRings 3 = .ok (.istore_n 2, 1) := by decide +kernel
theorem dX3_inRings_4 : decode cX3_inRings 4 = .ok (.iload_n 2, 1) := by decide +kernel
theorem dX3_inRings_5 : decode cX3_inRings 5 = .ok (.aload_n 0, 1) := by decide +kernel
theorem dX3_inRings_6 : decode cX3_inRings 6 = .ok (.getfield 39, 3) := by decide +kernel
theorem dX3_inRings_9 : decode cX3_inRings 9 = .ok (.if_icmp .ge 21, 3) := by decide +kernel
theorem dX3_inRings_12 : decode cX3_inRings 12 = .ok (.iload_n 1, 1) := by decide +kernel
theorem dX3_inRings_13 : decode cX3_inRings 13 = .ok (.aload_n 0, 1) := by decide +kernel
theorem dX3_inRings_14 : decode cX3_inRings 14 = .ok (.iload_n 2, 1) := by decide +kernel
theorem dX3_inRings_15 : decode cX3_inRings 15 = .ok (.invokevirtual 89, 3) := by decide +kernel
theorem dX3_inRings_18 : decode cX3_inRings 18 = .ok (.iconst 1, 1) := by decide +kernel
theorem dX3_inRings_19 : decode cX3_inRings 19 = .ok (.iload_n 2, 1) := by decide +kernel
theorem dX3_inRings_20 : decode cX3_inRings 20 = .ok (.ishl, 1) := by decide +kernel
theorem dX3_inRings_21 : decode cX3_inRings 21 = .ok (.iand, 1) := by decide +kernel
theorem dX3_inRings_22 : decode cX3_inRings 22 = .ok (.ior, 1) := by decide +kernel
theorem dX3_inRings_23 : decode cX3_inRings 23 = .ok (.istore_n 1, 1) := by decide +kernel
theorem dX3_inRings_24 : decode cX3_inRings 24 = .ok (.iinc 2 1, 3) := by decide +kernel
theorem dX3_inRings_27 : decode cX3_inRings 27 = .ok (.goto (-23), 3) := by decide +kernel
theorem dX3_inRings_30 : decode cX3_inRings 30 = .ok (.iload_n 1, 1) := by decide +kernel
theorem dX3_inRings_31 : decode cX3_inRings 31 = .ok (.ireturn, 1) := by decide +kernel
theorem dX4_init_0 : decode cX4_init 0 = .ok (.aload_n 0, 1) := by decide +kernel
theorem dX4_init_1 : decode cX4_init 1 = .ok (.invokespecial 3, 3) := by decide +kernel
theorem dX4_init_4 : decode cX4_init 4 = .ok (.return_, 1) := by decide +kernel
theorem dX4_howMany_0 : decode cX4_howMany 0 = .ok (.aload_n 0, 1) := by decide +kernel
theorem dX4_howMany_1 : decode cX4_howMany 1 = .ok (.getfield 9, 3) := by decide +kernel
theorem dX4_howMany_4 : decode cX4_howMany 4 = .ok (.ireturn, 1) := by decide +kernel
theorem dX4_isFull_0 : decode cX4_isFull 0 = .ok (.aload_n 0, 1) := by decide +kernel
theorem dX4_isFull_1 : decode cX4_isFull 1 = .ok (.getfield 9, 3) := by decide +kernel
theorem dX4_isFull_4 : decode cX4_isFull 4 = .ok (.bipush 8, 2) := by decide +kernel
theorem dX4_isFull_6 : decode cX4_isFull 6 = .ok (.if_icmp .lt 7, 3) := by decide +kernel
theorem dX4_isFull_9 : decode cX4_isFull 9 = .ok (.iconst 1, 1) := by decide +kernel
theorem dX4_isFull_10 : decode cX4_isFull 10 = .ok (.goto 4, 3) := by decide +kernel
theorem dX4_isFull_13 : decode cX4_isFull 13 = .ok (.iconst 0, 1) := by decide +kernel
theorem dX4_isFull_14 : decode cX4_isFull 14 = .ok (.ireturn, 1) := by decide +kernel
theorem dX4_add_0 : decode cX4_add 0 = .ok (.iload_n 2, 1) := by decide +kernel
theorem dX4_add_1 : decode cX4_add 1 = .ok (.iconst 1, 1) := by decide +kernel
theorem dX4_add_2 : decode cX4_add 2 = .ok (.if_icmp .ne 18, 3) := by decide +kernel
theorem dX4_add_5 : decode cX4_add 5 = .ok (.aload_n 0, 1) := by decide +kernel
theorem dX4_add_6 : decode cX4_add 6 = .ok (.dup, 1) := by decide +kernel
theorem dX4_add_7 : decode cX4_add 7 = .ok (.getfield 15, 3) := by decide +kernel
theorem dX4_add_10 : decode cX4_add 10 = .ok (.iconst 1, 1) := by decide +kernel
theorem dX4_add_11 : decode cX4_add 11 = .ok (.iload_n 1, 1) := by decide +kernel
theorem dX4_add_12 : decode cX4_add 12 = .ok (.ishl, 1) := by decide +kernel
theorem dX4_add_13 : decode cX4_add 13 = .ok (.ior, 1) := by decide +kernel
theorem dX4_add_14 : decode cX4_add 14 = .ok (.putfield 15, 3) := by decide +kernel
theorem dX4_add_17 : decode cX4_add 17 = .ok (.goto 15, 3) := by decide +kernel
theorem dX4_add_20 : decode cX4_add 20 = .ok (.aload_n 0, 1) := by decide +kernel
theorem dX4_add_21 : decode cX4_add 21 = .ok (.dup, 1) := by decide +kernel
theorem dX4_add_22 : decode cX4_add 22 = .ok (.getfield 18, 3) := by decide +kernel
theorem dX4_add_25 : decode cX4_add 25 = .ok (.iconst 1, 1) := by decide +kernel
theorem dX4_add_26 : decode cX4_add 26 = .ok (.iload_n 1, 1) := by decide +kernel
theorem dX4_add_27 : decode cX4_add 27 = .ok (.ishl, 1) := by decide +kernel
theorem dX4_add_28 : decode cX4_add 28 = .ok (.ior, 1) := by decide +kernel
theorem dX4_add_29 : decode cX4_add 29 = .ok (.putfield 18, 3) := by decide +kernel
theorem dX4_add_32 : decode cX4_add 32 = .ok (.aload_n 0, 1) := by decide +kernel
theorem dX4_add_33 : decode cX4_add 33 = .ok (.dup, 1) := by decide +kernel
theorem dX4_add_34 : decode cX4_add 34 = .ok (.getfield 9, 3) := by decide +kernel
theorem dX4_add_37 : decode cX4_add 37 = .ok (.iconst 1, 1) := by decide +kernel
theorem dX4_add_38 : decode cX4_add 38 = .ok (.iadd, 1) := by decide +kernel
theorem dX4_add_39 : decode cX4_add 39 = .ok (.putfield 9, 3) := by decide +kernel
theorem dX4_add_42 : decode cX4_add 42 = .ok (.return_, 1) := by decide +kernel
theorem dX4_clearAll_0 : decode cX4_clearAll 0 = .ok (.aload_n 0, 1) := by decide +kernel
theorem dX4_clearAll_1 : decode cX4_clearAll 1 = .ok (.iconst 0, 1) := by decide +kernel
theorem dX4_clearAll_2 : decode cX4_clearAll 2 = .ok (.putfield 9, 3) := by decide +kernel
theorem dX4_clearAll_5 : decode cX4_clearAll 5 = .ok (.aload_n 0, 1) := by decide +kernel
theorem dX4_clearAll_6 : decode cX4_clearAll 6 = .ok (.iconst 0, 1) := by decide +kernel
theorem dX4_clearAll_7 : decode cX4_clearAll 7 = .ok (.putfield 15, 3) := by decide +kernel
theorem dX4_clearAll_10 : decode cX4_clearAll 10 = .ok (.aload_n 0, 1) := by decide +kernel
theorem dX4_clearAll_11 : decode cX4_clearAll 11 = .ok (.iconst 0, 1) := by decide +kernel
theorem dX4_clearAll_12 : decode cX4_clearAll 12 = .ok (.putfield 18, 3) := by decide +kernel
theorem dX4_clearAll_15 : decode cX4_clearAll 15 = .ok (.return_, 1) := by decide +kernel
theorem dX4_agreesWith_0 : decode cX4_agreesWith 0 = .ok (.iload_n 1, 1) := by decide +kernel
theorem dX4_agreesWith_1 : decode cX4_agreesWith 1 = .ok (.aload_n 0, 1) := by decide +kernel
theorem dX4_agreesWith_2 : decode cX4_agreesWith 2 = .ok (.getfield 15, 3) := by decide +kernel
theorem dX4_agreesWith_5 : decode cX4_agreesWith 5 = .ok (.iand, 1) := by decide +kernel
theorem dX4_agreesWith_6 : decode cX4_agreesWith 6 = .ok (.aload_n 0, 1) := by decide +kernel
theorem dX4_agreesWith_7 : decode cX4_agreesWith 7 = .ok (.getfield 15, 3) := by decide +kernel
theorem dX4_agreesWith_10 : decode cX4_agreesWith 10 = .ok (.if_icmp .ne 16, 3) := by decide +kernel
theorem dX4_agreesWith_13 : decode cX4_agreesWith 13 = .ok (.iload_n 1, 1) := by decide +kernel
theorem dX4_agreesWith_14 : decode cX4_agreesWith 14 = .ok (.aload_n 0, 1) := by decide +kernel
theorem dX4_agreesWith_15 : decode cX4_agreesWith 15 = .ok (.getfield 18, 3) := by decide +kernel
theorem dX4_agreesWith_18 : decode cX4_agreesWith 18 = .ok (.iand, 1) := by decide +kernel
theorem dX4_agreesWith_19 : decode cX4_agreesWith 19 = .ok (.ifCond .ne 7, 3) := by decide +kernel
theorem dX4_agreesWith_22 : decode cX4_agreesWith 22 = .ok (.iconst 1, 1) := by decide +kernel
theorem dX4_agreesWith_23 : decode cX4_agreesWith 23 = .ok (.goto 4, 3) := by decide +kernel
theorem dX4_agreesWith_26 : decode cX4_agreesWith 26 = .ok (.iconst 0, 1) := by decide +kernel
theorem dX4_agreesWith_27 : decode cX4_agreesWith 27 = .ok (.ireturn, 1) := by decide +kernel
theorem dX5_init_0 : decode cX5_init 0 = .ok (.aload_n 0, 1) := by decide +kernel
theorem dX5_init_1 : decode cX5_init 1 = .ok (.invokespecial 3, 3) := by decide +kernel
theorem dX5_init_4 : decode cX5_init 4 = .ok (.aload_n 0, 1) := by decide +kernel
theorem dX5_init_5 : decode cX5_init 5 = .ok (.bipush 48, 2) := by decide +kernel
theorem dX5_init_7 : decode cX5_init 7 = .ok (.newarray .int, 2) := by decide +kernel
theorem dX5_init_9 : decode cX5_init 9 = .ok (.putfield 9, 3) := by decide +kernel
theorem dX5_init_12 : decode cX5_init 12 = .ok (.aload_n 0, 1) := by decide +kernel
theorem dX5_init_13 : decode cX5_init 13 = .ok (.iconst (-1), 1) := by decide +kernel
theorem dX5_init_14 : decode cX5_init 14 = .ok (.putfield 15, 3) := by decide +kernel
theorem dX5_init_17 : decode cX5_init 17 = .ok (.return_, 1) := by decide +kernel
theorem dX5_isLost_0 : decode cX5_isLost 0 = .ok (.aload_n 0, 1) := by decide +kernel
theorem dX5_isLost_1 : decode cX5_isLost 1 = .ok (.getfield 15, 3) := by decide +kernel
theorem dX5_isLost_4 : decode cX5_isLost 4 = .ok (.iconst (-1), 1) := by decide +kernel
theorem dX5_isLost_5 : decode cX5_isLost 5 = .ok (.if_icmp .ne 7, 3) := by decide +kernel
theorem dX5_isLost_8 : decode cX5_isLost 8 = .ok (.iconst 1, 1) := by decide +kernel
theorem dX5_isLost_9 : decode cX5_isLost 9 = .ok (.goto 4, 3) := by decide +kernel
theorem dX5_isLost_12 : decode cX5_isLost 12 = .ok (.iconst 0, 1) := by decide +kernel
theorem dX5_isLost_13 : decode cX5_isLost 13 = .ok (.ireturn, 1) := by decide +kernel
theorem dX5_form_0 : decode cX5_form 0 = .ok (.aload_n 0, 1) := by decide +kernel
theorem dX5_form_1 : decode cX5_form 1 = .ok (.getfield 15, 3) := by decide +kernel
theorem dX5_form_4 : decode cX5_form 4 = .ok (.ireturn, 1) := by decide +kernel
theorem dX5_length_0 : decode cX5_length 0 = .ok (.aload_n 0, 1) := by decide +kernel
theorem dX5_length_1 : decode cX5_length 1 = .ok (.getfield 19, 3) := by decide +kernel
theorem dX5_length_4 : decode cX5_length 4 = .ok (.ireturn, 1) := by decide +kernel
theorem dX5_begin_0 : decode cX5_begin 0 = .ok (.aload_n 0, 1) := by decide +kernel
theorem dX5_begin_1 : decode cX5_begin 1 = .ok (.iload_n 1, 1) := by decide +kernel
theorem dX5_begin_2 : decode cX5_begin 2 = .ok (.putfield 15, 3) := by decide +kernel
theorem dX5_begin_5 : decode cX5_begin 5 = .ok (.aload_n 0, 1) := by decide +kernel
theorem dX5_begin_6 : decode cX5_begin 6 = .ok (.iconst 0, 1) := by decide +kernel
theorem dX5_begin_7 : decode cX5_begin 7 = .ok (.iload_n 2, 1) := by decide +kernel
theorem dX5_begin_8 : decode cX5_begin 8 = .ok (.bipush 48, 2) := by decide +kernel
theorem dX5_begin_10 : decode cX5_begin 10 = .ok (.invokestatic 22, 3) := by decide +kernel
theorem dX5_begin_13 : decode cX5_begin 13 = .ok (.invokestatic 28, 3) := by decide +kernel
theorem dX5_begin_16 : decode cX5_begin 16 = .ok (.putfield 19, 3) := by decide +kernel
theorem dX5_begin_19 : decode cX5_begin 19 = .ok (.aload_n 0, 1) := by decide +kernel
theorem dX5_begin_20 : decode cX5_begin 20 = .ok (.getfield 9, 3) := by decide +kernel
theorem dX5_begin_23 : decode cX5_begin 23 = .ok (.iconst 0, 1) := by decide +kernel
theorem dX5_begin_24 : decode cX5_begin 24 = .ok (.invokestatic 31, 3) := by decide +kernel
theorem dX5_begin_27 : decode cX5_begin 27 = .ok (.return_, 1) := by decide +kernel
theorem dX5_becomeLost_0 : decode cX5_becomeLost 0 = .ok (.aload_n 0, 1) := by decide +kernel
theorem dX5_becomeLost_1 : decode cX5_becomeLost 1 = .ok (.iconst (-1), 1) := by decide +kernel
theorem dX5_becomeLost_2 : decode cX5_becomeLost 2 = .ok (.putfield 15, 3) := by decide +kernel
theorem dX5_becomeLost_5 : decode cX5_becomeLost 5 = .ok (.aload_n 0, 1) := by decide +kernel
theorem dX5_becomeLost_6 : decode cX5_becomeLost 6 = .ok (.iconst 0, 1) := by decide +kernel
theorem dX5_becomeLost_7 : decode cX5_becomeLost 7 = .ok (.putfield 19, 3) := by decide +kernel
theorem dX5_becomeLost_10 : decode cX5_becomeLost 10 = .ok (.return_, 1) := by decide +kernel
theorem dX5_item_0 : decode cX5_item 0 = .ok (.iload_n 1, 1) := by decide +kernel
theorem dX5_item_1 : decode cX5_item 1 = .ok (.ifCond .lt 26, 3) := by decide +kernel
theorem dX5_item_4 : decode cX5_item 4 = .ok (.iload_n 1, 1) := by decide +kernel
theorem dX5_item_5 : decode cX5_item 5 = .ok (.aload_n 0, 1) := by decide +kernel
theorem dX5_item_6 : decode cX5_item 6 = .ok (.getfield 19, 3) := by decide +kernel
theorem dX5_item_9 : decode cX5_item 9 = .ok (.if_icmp .ge 18, 3) := by decide +kernel
theorem dX5_item_12 : decode cX5_item 12 = .ok (.iload_n 1, 1) := by decide +kernel
theorem dX5_item_13 : decode cX5_item 13 = .ok (.bipush 48, 2) := by decide +kernel
theorem dX5_item_15 : decode cX5_item 15 = .ok (.if_icmp .ge 12, 3) := by decide +kernel
theorem dX5_item_18 : decode cX5_item 18 = .ok (.aload_n 0, 1) := by decide +kernel
theorem dX5_item_19 : decode cX5_item 19 = .ok (.getfield 9, 3) := by decide +kernel
theorem dX5_item_22 : decode cX5_item 22 = .ok (.iload_n 1, 1) := by decide +kernel
theorem dX5_item_23 : decode cX5_item 23 = .ok (.iaload, 1) := by decide +kernel
theorem dX5_item_24 : decode cX5_item 24 = .ok (.goto 4, 3) := by decide +kernel
theorem dX5_item_27 : decode cX5_item 27 = .ok (.iconst 0, 1) := by decide +kernel
theorem dX5_item_28 : decode cX5_item 28 = .ok (.ireturn, 1) := by decide +kernel
theorem dX5_setItem_0 : decode cX5_setItem 0 = .ok (.iload_n 1, 1) := by decide +kernel
theorem dX5_setItem_1 : decode cX5_setItem 1 = .ok (.ifCond .lt 28, 3) := by decide +kernel
theorem dX5_setItem_4 : decode cX5_setItem 4 = .ok (.iload_n 1, 1) := by decide +kernel
theorem dX5_setItem_5 : decode cX5_setItem 5 = .ok (.aload_n 0, 1) := by decide +kernel
theorem dX5_setItem_6 : decode cX5_setItem 6 = .ok (.getfield 19, 3) := by decide +kernel
theorem dX5_setItem_9 : decode cX5_setItem 9 = .ok (.if_icmp .ge 20, 3) := by decide +kernel
theorem dX5_setItem_12 : decode cX5_setItem 12 = .ok (.iload_n 1, 1) := by decide +kernel
theorem dX5_setItem_13 : decode cX5_setItem 13 = .ok (.bipush 48, 2) := by decide +kernel
theorem dX5_setItem_15 : decode cX5_setItem 15 = .ok (.if_icmp .ge 14, 3) := by decide +kernel
theorem dX5_setItem_18 : decode cX5_setItem 18 = .ok (.aload_n 0, 1) := by decide +kernel
theorem dX5_setItem_19 : decode cX5_setItem 19 = .ok (.getfield 9, 3) := by decide +kernel
theorem dX5_setItem_22 : decode cX5_setItem 22 = .ok (.iload_n 1, 1) := by decide +kernel
theorem dX5_setItem_23 : decode cX5_setItem 23 = .ok (.aload_n 0, 1) := by decide +kernel
theorem dX5_setItem_24 : decode cX5_setItem 24 = .ok (.iload_n 2, 1) := by decide +kernel
theorem dX5_setItem_25 : decode cX5_setItem 25 = .ok (.invokevirtual 37, 3) := by decide +kernel
theorem dX5_setItem_28 : decode cX5_setItem 28 = .ok (.iastore, 1) := by decide +kernel
theorem dX5_setItem_29 : decode cX5_setItem 29 = .ok (.return_, 1) := by decide +kernel
theorem dX5_narrowed_0 : decode cX5_narrowed 0 = .ok (.aload_n 0, 1) := by decide +kernel
theorem dX5_narrowed_1 : decode cX5_narrowed 1 = .ok (.getfield 15, 3) := by decide +kernel
theorem dX5_narrowed_4 : decode cX5_narrowed 4 = .ok (.lookupswitch 34 #[(0, 28), (1, 31)], 28) := by decide +kernel
theorem dX5_narrowed_32 : decode cX5_narrowed 32 = .ok (.iload_n 1, 1) := by decide +kernel
theorem dX5_narrowed_33 : decode cX5_narrowed 33 = .ok (.i2b, 1) := by decide +kernel
theorem dX5_narrowed_34 : decode cX5_narrowed 34 = .ok (.ireturn, 1) := by decide +kernel
theorem dX5_narrowed_35 : decode cX5_narrowed 35 = .ok (.iload_n 1, 1) := by decide +kernel
theorem dX5_narrowed_36 : decode cX5_narrowed 36 = .ok (.i2s, 1) := by decide +kernel
theorem dX5_narrowed_37 : decode cX5_narrowed 37 = .ok (.ireturn, 1) := by decide +kernel
theorem dX5_narrowed_38 : decode cX5_narrowed 38 = .ok (.iload_n 1, 1) := by decide +kernel
theorem dX5_narrowed_39 : decode cX5_narrowed 39 = .ok (.ireturn, 1) := by decide +kernel
theorem dX5_hasRun_0 : decode cX5_hasRun 0 = .ok (.iload_n 1, 1) := by decide +kernel
theorem dX5_hasRun_1 : decode cX5_hasRun 1 = .ok (.ifCond .lt 29, 3) := by decide +kernel
theorem dX5_hasRun_4 : decode cX5_hasRun 4 = .ok (.iload_n 2, 1) := by decide +kernel
theorem dX5_hasRun_5 : decode cX5_hasRun 5 = .ok (.ifCond .lt 25, 3) := by decide +kernel
theorem dX5_hasRun_8 : decode cX5_hasRun 8 = .ok (.iload_n 1, 1) := by decide +kernel
theorem dX5_hasRun_9 : decode cX5_hasRun 9 = .ok (.aload_n 0, 1) := by decide +kernel
theorem dX5_hasRun_10 : decode cX5_hasRun 10 = .ok (.getfield 19, 3) := by decide +kernel
theorem dX5_hasRun_13 : decode cX5_hasRun 13 = .ok (.if_icmp .gt 17, 3) := by decide +kernel
theorem dX5_hasRun_16 : decode cX5_hasRun 16 = .ok (.iload_n 2, 1) := by decide +kernel
theorem dX5_hasRun_17 : decode cX5_hasRun 17 = .ok (.aload_n 0, 1) := by decide +kernel
theorem dX5_hasRun_18 : decode cX5_hasRun 18 = .ok (.getfield 19, 3) := by decide +kernel
theorem dX5_hasRun_21 : decode cX5_hasRun 21 = .ok (.iload_n 1, 1) := by decide +kernel
theorem dX5_hasRun_22 : decode cX5_hasRun 22 = .ok (.isub, 1) := by decide +kernel
theorem dX5_hasRun_23 : decode cX5_hasRun 23 = .ok (.if_icmp .gt 7, 3) := by decide +kernel
theorem dX5_hasRun_26 : decode cX5_hasRun 26 = .ok (.iconst 1, 1) := by decide +kernel
theorem dX5_hasRun_27 : decode cX5_hasRun 27 = .ok (.goto 4, 3) := by decide +kernel
theorem dX5_hasRun_30 : decode cX5_hasRun 30 = .ok (.iconst 0, 1) := by decide +kernel
theorem dX5_hasRun_31 : decode cX5_hasRun 31 = .ok (.ireturn, 1) := by decide +kernel
theorem dX5_takeRun_0 : decode cX5_takeRun 0 = .ok (.aload_n 1, 1) := by decide +kernel
theorem dX5_takeRun_1 : decode cX5_takeRun 1 = .ok (.ifnull 38, 3) := by decide +kernel
theorem dX5_takeRun_4 : decode cX5_takeRun 4 = .ok (.aload_n 1, 1) := by decide +kernel
theorem dX5_takeRun_5 : decode cX5_takeRun 5 = .ok (.iload_n 2, 1) := by decide +kernel
theorem dX5_takeRun_6 : decode cX5_takeRun 6 = .ok (.iload 4, 2) := by decide +kernel
theorem dX5_takeRun_8 : decode cX5_takeRun 8 = .ok (.invokevirtual 41, 3) := by decide +kernel
theorem dX5_takeRun_11 : decode cX5_takeRun 11 = .ok (.ifCond .eq 28, 3) := by decide +kernel
theorem dX5_takeRun_14 : decode cX5_takeRun 14 = .ok (.aload_n 0, 1) := by decide +kernel
theorem dX5_takeRun_15 : decode cX5_takeRun 15 = .ok (.iload_n 3, 1) := by decide +kernel
theorem dX5_takeRun_16 : decode cX5_takeRun 16 = .ok (.iload 4, 2) := by decide +kernel
theorem dX5_takeRun_18 : decode cX5_takeRun 18 = .ok (.invokevirtual 41, 3) := by decide +kernel
theorem dX5_takeRun_21 : decode cX5_takeRun 21 = .ok (.ifCond .eq 18, 3) := by decide +kernel
theorem dX5_takeRun_24 : decode cX5_takeRun 24 = .ok (.aload_n 1, 1) := by decide +kernel
theorem dX5_takeRun_25 : decode cX5_takeRun 25 = .ok (.getfield 9, 3) := by decide +kernel
theorem dX5_takeRun_28 : decode cX5_takeRun 28 = .ok (.iload_n 2, 1) := by decide +kernel
theorem dX5_takeRun_29 : decode cX5_takeRun 29 = .ok (.aload_n 0, 1) := by decide +kernel
theorem dX5_takeRun_30 : decode cX5_takeRun 30 = .ok (.getfield 9, 3) := by decide +kernel
theorem dX5_takeRun_33 : decode cX5_takeRun 33 = .ok (.iload_n 3, 1) := by decide +kernel
theorem dX5_takeRun_34 : decode cX5_takeRun 34 = .ok (.iload 4, 2) := by decide +kernel
theorem dX5_takeRun_36 : decode cX5_takeRun 36 = .ok (.invokestatic 45, 3) := by decide +kernel
theorem dX5_takeRun_39 : decode cX5_takeRun 39 = .ok (.return_, 1) := by decide +kernel
theorem dX6_init_0 : decode cX6_init 0 = .ok (.aload_n 0, 1) := by decide +kernel
theorem dX6_init_1 : decode cX6_init 1 = .ok (.invokespecial 3, 3) := by decide +kernel
theorem dX6_init_4 : decode cX6_init 4 = .ok (.aload_n 0, 1) := by decide +kernel
theorem dX6_init_5 : decode cX6_init 5 = .ok (.iconst 0, 1) := by decide +kernel
theorem dX6_init_6 : decode cX6_init 6 = .ok (.iload_n 1, 1) := by decide +kernel
theorem dX6_init_7 : decode cX6_init 7 = .ok (.invokestatic 9, 3) := by decide +kernel
theorem dX6_init_10 : decode cX6_init 10 = .ok (.newarray .byte, 2) := by decide +kernel
theorem dX6_init_12 : decode cX6_init 12 = .ok (.putfield 15, 3) := by decide +kernel
theorem dX6_init_15 : decode cX6_init 15 = .ok (.return_, 1) := by decide +kernel
theorem dX6_length_0 : decode cX6_length 0 = .ok (.aload_n 0, 1) := by decide +kernel
theorem dX6_length_1 : decode cX6_length 1 = .ok (.getfield 21, 3) := by decide +kernel
theorem dX6_length_4 : decode cX6_length 4 = .ok (.ireturn, 1) := by decide +kernel
theorem dX6_isFull_0 : decode cX6_isFull 0 = .ok (.aload_n 0, 1) := by decide +kernel
theorem dX6_isFull_1 : decode cX6_isFull 1 = .ok (.getfield 21, 3) := by decide +kernel
theorem dX6_isFull_4 : decode cX6_isFull 4 = .ok (.aload_n 0, 1) := by decide +kernel
theorem dX6_isFull_5 : decode cX6_isFull 5 = .ok (.getfield 15, 3) := by decide +kernel
theorem dX6_isFull_8 : decode cX6_isFull 8 = .ok (.arraylength, 1) := by decide +kernel
theorem dX6_isFull_9 : decode cX6_isFull 9 = .ok (.if_icmp .lt 7, 3) := by decide +kernel
theorem dX6_isFull_12 : decode cX6_isFull 12 = .ok (.iconst 1, 1) := by decide +kernel
theorem dX6_isFull_13 : decode cX6_isFull 13 = .ok (.goto 4, 3) := by decide +kernel
theorem dX6_isFull_16 : decode cX6_isFull 16 = .ok (.iconst 0, 1) := by decide +kernel
theorem dX6_isFull_17 : decode cX6_isFull 17 = .ok (.ireturn, 1) := by decide +kernel
theorem dX6_append_0 : decode cX6_append 0 = .ok (.aload_n 0, 1) := by decide +kernel
theorem dX6_append_1 : decode cX6_append 1 = .ok (.getfield 21, 3) := by decide +kernel
theorem dX6_append_4 : decode cX6_append 4 = .ok (.ifCond .lt 36, 3) := by decide +kernel
theorem dX6_append_7 : decode cX6_append 7 = .ok (.aload_n 0, 1) := by decide +kernel
theorem dX6_append_8 : decode cX6_append 8 = .ok (.getfield 21, 3) := by decide +kernel
theorem dX6_append_11 : decode cX6_append 11 = .ok (.aload_n 0, 1) := by decide +kernel
theorem dX6_append_12 : decode cX6_append 12 = .ok (.getfield 15, 3) := by decide +kernel
theorem dX6_append_15 : decode cX6_append 15 = .ok (.arraylength, 1) := by decide +kernel
theorem dX6_append_16 : decode cX6_append 16 = .ok (.if_icmp .ge 24, 3) := by decide +kernel
theorem dX6_append_19 : decode cX6_append 19 = .ok (.aload_n 0, 1) := by decide +kernel
theorem dX6_append_20 : decode cX6_append 20 = .ok (.getfield 15, 3) := by decide +kernel
theorem dX6_append_23 : decode cX6_append 23 = .ok (.aload_n 0, 1) := by decide +kernel
theorem dX6_append_24 : decode cX6_append 24 = .ok (.getfield 21, 3) := by decide +kernel
theorem dX6_append_27 : decode cX6_append 27 = .ok (.iload_n 1, 1) := by decide +kernel
theorem dX6_append_28 : decode cX6_append 28 = .ok (.i2b, 1) := by decide +kernel
theorem dX6_append_29 : decode cX6_append 29 = .ok (.bastore, 1) := by decide +kernel
theorem dX6_append_30 : decode cX6_append 30 = .ok (.aload_n 0, 1) := by decide +kernel
theorem dX6_append_31 : decode cX6_append 31 = .ok (.dup, 1) := by decide +kernel
theorem dX6_append_32 : decode cX6_append 32 = .ok (.getfield 21, 3) := by decide +kernel
theorem dX6_append_35 : decode cX6_append 35 = .ok (.iconst 1, 1) := by decide +kernel
theorem dX6_append_36 : decode cX6_append 36 = .ok (.iadd, 1) := by decide +kernel
theorem dX6_append_37 : decode cX6_append 37 = .ok (.putfield 21, 3) := by decide +kernel
theorem dX6_append_40 : decode cX6_append 40 = .ok (.return_, 1) := by decide +kernel
theorem dX6_dropLast_0 : decode cX6_dropLast 0 = .ok (.aload_n 0, 1) := by decide +kernel
theorem dX6_dropLast_1 : decode cX6_dropLast 1 = .ok (.getfield 21, 3) := by decide +kernel
theorem dX6_dropLast_4 : decode cX6_dropLast 4 = .ok (.ifCond .le 13, 3) := by decide +kernel
theorem dX6_dropLast_7 : decode cX6_dropLast 7 = .ok (.aload_n 0, 1) := by decide +kernel
theorem dX6_dropLast_8 : decode cX6_dropLast 8 = .ok (.dup, 1) := by decide +kernel
theorem dX6_dropLast_9 : decode cX6_dropLast 9 = .ok (.getfield 21, 3) := by decide +kernel
theorem dX6_dropLast_12 : decode cX6_dropLast 12 = .ok (.iconst 1, 1) := by decide +kernel
theorem dX6_dropLast_13 : decode cX6_dropLast 13 = .ok (.isub, 1) := by decide +kernel
theorem dX6_dropLast_14 : decode cX6_dropLast 14 = .ok (.putfield 21, 3) := by decide +kernel
theorem dX6_dropLast_17 : decode cX6_dropLast 17 = .ok (.return_, 1) := by decide +kernel
theorem dX6_clearAll_0 : decode cX6_clearAll 0 = .ok (.aload_n 0, 1) := by decide +kernel
theorem dX6_clearAll_1 : decode cX6_clearAll 1 = .ok (.iconst 0, 1) := by decide +kernel
theorem dX6_clearAll_2 : decode cX6_clearAll 2 = .ok (.putfield 21, 3) := by decide +kernel
theorem dX6_clearAll_5 : decode cX6_clearAll 5 = .ok (.return_, 1) := by decide +kernel
theorem dX6_at_0 : decode cX6_at 0 = .ok (.iload_n 1, 1) := by decide +kernel
theorem dX6_at_1 : decode cX6_at 1 = .ok (.ifCond .lt 33, 3) := by decide +kernel
theorem dX6_at_4 : decode cX6_at 4 = .ok (.iload_n 1, 1) := by decide +kernel
theorem dX6_at_5 : decode cX6_at 5 = .ok (.aload_n 0, 1) := by decide +kernel
theorem dX6_at_6 : decode cX6_at 6 = .ok (.getfield 21, 3) := by decide +kernel
theorem dX6_at_9 : decode cX6_at 9 = .ok (.if_icmp .ge 25, 3) := by decide +kernel
theorem dX6_at_12 : decode cX6_at 12 = .ok (.iload_n 1, 1) := by decide +kernel
theorem dX6_at_13 : decode cX6_at 13 = .ok (.aload_n 0, 1) := by decide +kernel
theorem dX6_at_14 : decode cX6_at 14 = .ok (.getfield 15, 3) := by decide +kernel
theorem dX6_at_17 : decode cX6_at 17 = .ok (.arraylength, 1) := by decide +kernel
theorem dX6_at_18 : decode cX6_at 18 = .ok (.if_icmp .ge 16, 3) := by decide +kernel
theorem dX6_at_21 : decode cX6_at 21 = .ok (.aload_n 0, 1) := by decide +kernel
theorem dX6_at_22 : decode cX6_at 22 = .ok (.getfield 15, 3) := by decide +kernel
theorem dX6_at_25 : decode cX6_at 25 = .ok (.iload_n 1, 1) := by decide +kernel
theorem dX6_at_26 : decode cX6_at 26 = .ok (.baload, 1) := by decide +kernel
theorem dX6_at_27 : decode cX6_at 27 = .ok (.sipush 255, 3) := by decide +kernel
theorem dX6_at_30 : decode cX6_at 30 = .ok (.iand, 1) := by decide +kernel
theorem dX6_at_31 : decode cX6_at 31 = .ok (.goto 4, 3) := by decide +kernel
theorem dX6_at_34 : decode cX6_at 34 = .ok (.iconst (-1), 1) := by decide +kernel
theorem dX6_at_35 : decode cX6_at 35 = .ok (.ireturn, 1) := by decide +kernel
theorem dX7_init_0 : decode cX7_init 0 = .ok (.aload_n 0, 1) := by decide +kernel
theorem dX7_init_1 : decode cX7_init 1 = .ok (.invokespecial 1, 3) := by decide +kernel
theorem dX7_init_4 : decode cX7_init 4 = .ok (.aload_n 0, 1) := by decide +kernel
theorem dX7_init_5 : decode cX7_init 5 = .ok (.iconst 3, 1) := by decide +kernel
theorem dX7_init_6 : decode cX7_init 6 = .ok (.anewarray 7, 3) := by decide +kernel
theorem dX7_init_9 : decode cX7_init 9 = .ok (.dup, 1) := by decide +kernel
theorem dX7_init_10 : decode cX7_init 10 = .ok (.iconst 0, 1) := by decide +kernel
theorem dX7_init_11 : decode cX7_init 11 = .ok (.new 7, 3) := by decide +kernel
theorem dX7_init_14 : decode cX7_init 14 = .ok (.dup, 1) := by decide +kernel
theorem dX7_init_15 : decode cX7_init 15 = .ok (.bipush 80, 2) := by decide +kernel
theorem dX7_init_17 : decode cX7_init 17 = .ok (.invokespecial 9, 3) := by decide +kernel
theorem dX7_init_20 : decode cX7_init 20 = .ok (.aastore, 1) := by decide +kernel
theorem dX7_init_21 : decode cX7_init 21 = .ok (.dup, 1) := by decide +kernel
theorem dX7_init_22 : decode cX7_init 22 = .ok (.iconst 1, 1) := by decide +kernel
theorem dX7_init_23 : decode cX7_init 23 = .ok (.new 7, 3) := by decide +kernel
theorem dX7_init_26 : decode cX7_init 26 = .ok (.dup, 1) := by decide +kernel
theorem dX7_init_27 : decode cX7_init 27 = .ok (.bipush 60, 2) := by decide +kernel
theorem dX7_init_29 : decode cX7_init 29 = .ok (.invokespecial 9, 3) := by decide +kernel
theorem dX7_init_32 : decode cX7_init 32 = .ok (.aastore, 1) := by decide +kernel
theorem dX7_init_33 : decode cX7_init 33 = .ok (.dup, 1) := by decide +kernel
theorem dX7_init_34 : decode cX7_init 34 = .ok (.iconst 2, 1) := by decide +kernel
theorem dX7_init_35 : decode cX7_init 35 = .ok (.new 7, 3) := by decide +kernel
theorem dX7_init_38 : decode cX7_init 38 = .ok (.dup, 1) := by decide +kernel
theorem dX7_init_39 : decode cX7_init 39 = .ok (.bipush 60, 2) := by decide +kernel
theorem dX7_init_41 : decode cX7_init 41 = .ok (.invokespecial 9, 3) := by decide +kernel
theorem dX7_init_44 : decode cX7_init 44 = .ok (.aastore, 1) := by decide +kernel
theorem dX7_init_45 : decode cX7_init 45 = .ok (.putfield 12, 3) := by decide +kernel
theorem dX7_init_48 : decode cX7_init 48 = .ok (.aload_n 0, 1) := by decide +kernel
theorem dX7_init_49 : decode cX7_init 49 = .ok (.iconst 3, 1) := by decide +kernel
theorem dX7_init_50 : decode cX7_init 50 = .ok (.anewarray 18, 3) := by decide +kernel
theorem dX7_init_53 : decode cX7_init 53 = .ok (.dup, 1) := by decide +kernel
theorem dX7_init_54 : decode cX7_init 54 = .ok (.iconst 0, 1) := by decide +kernel
theorem dX7_init_55 : decode cX7_init 55 = .ok (.new 18, 3) := by decide +kernel
theorem dX7_init_58 : decode cX7_init 58 = .ok (.dup, 1) := by decide +kernel
theorem dX7_init_59 : decode cX7_init 59 = .ok (.getstatic 20, 3) := by decide +kernel
theorem dX7_init_62 : decode cX7_init 62 = .ok (.invokespecial 24, 3) := by decide +kernel
theorem dX7_init_65 : decode cX7_init 65 = .ok (.aastore, 1) := by decide +kernel
theorem dX7_init_66 : decode cX7_init 66 = .ok (.dup, 1) := by decide +kernel
theorem dX7_init_67 : decode cX7_init 67 = .ok (.iconst 1, 1) := by decide +kernel
theorem dX7_init_68 : decode cX7_init 68 = .ok (.new 18, 3) := by decide +kernel
theorem dX7_init_71 : decode cX7_init 71 = .ok (.dup, 1) := by decide +kernel
theorem dX7_init_72 : decode cX7_init 72 = .ok (.getstatic 27, 3) := by decide +kernel
theorem dX7_init_75 : decode cX7_init 75 = .ok (.invokespecial 24, 3) := by decide +kernel
theorem dX7_init_78 : decode cX7_init 78 = .ok (.aastore, 1) := by decide +kernel
theorem dX7_init_79 : decode cX7_init 79 = .ok (.dup, 1) := by decide +kernel
theorem dX7_init_80 : decode cX7_init 80 = .ok (.iconst 2, 1) := by decide +kernel
theorem dX7_init_81 : decode cX7_init 81 = .ok (.new 18, 3) := by decide +kernel
theorem dX7_init_84 : decode cX7_init 84 = .ok (.dup, 1) := by decide +kernel
theorem dX7_init_85 : decode cX7_init 85 = .ok (.getstatic 27, 3) := by decide +kernel
theorem dX7_init_88 : decode cX7_init 88 = .ok (.invokespecial 24, 3) := by decide +kernel
theorem dX7_init_91 : decode cX7_init 91 = .ok (.aastore, 1) := by decide +kernel
theorem dX7_init_92 : decode cX7_init 92 = .ok (.putfield 30, 3) := by decide +kernel
theorem dX7_init_95 : decode cX7_init 95 = .ok (.aload_n 0, 1) := by decide +kernel
theorem dX7_init_96 : decode cX7_init 96 = .ok (.iconst 4, 1) := by decide +kernel
theorem dX7_init_97 : decode cX7_init 97 = .ok (.newarray .int, 2) := by decide +kernel
theorem dX7_init_99 : decode cX7_init 99 = .ok (.dup, 1) := by decide +kernel
theorem dX7_init_100 : decode cX7_init 100 = .ok (.iconst 0, 1) := by decide +kernel
theorem dX7_init_101 : decode cX7_init 101 = .ok (.bipush 9, 2) := by decide +kernel
theorem dX7_init_103 : decode cX7_init 103 = .ok (.iastore, 1) := by decide +kernel
theorem dX7_init_104 : decode cX7_init 104 = .ok (.dup, 1) := by decide +kernel
theorem dX7_init_105 : decode cX7_init 105 = .ok (.iconst 1, 1) := by decide +kernel
theorem dX7_init_106 : decode cX7_init 106 = .ok (.iconst 0, 1) := by decide +kernel
theorem dX7_init_107 : decode cX7_init 107 = .ok (.iastore, 1) := by decide +kernel
theorem dX7_init_108 : decode cX7_init 108 = .ok (.dup, 1) := by decide +kernel
theorem dX7_init_109 : decode cX7_init 109 = .ok (.iconst 2, 1) := by decide +kernel
theorem dX7_init_110 : decode cX7_init 110 = .ok (.iconst 5, 1) := by decide +kernel
theorem dX7_init_111 : decode cX7_init 111 = .ok (.iastore, 1) := by decide +kernel
theorem dX7_init_112 : decode cX7_init 112 = .ok (.dup, 1) := by decide +kernel
theorem dX7_init_113 : decode cX7_init 113 = .ok (.iconst 3, 1) := by decide +kernel
theorem dX7_init_114 : decode cX7_init 114 = .ok (.iconst 0, 1) := by decide +kernel
theorem dX7_init_115 : decode cX7_init 115 = .ok (.iastore, 1) := by decide +kernel
theorem dX7_init_116 : decode cX7_init 116 = .ok (.putfield 34, 3) := by decide +kernel
theorem dX7_init_119 : decode cX7_init 119 = .ok (.aload_n 0, 1) := by decide +kernel
theorem dX7_init_120 : decode cX7_init 120 = .ok (.bipush 10, 2) := by decide +kernel
theorem dX7_init_122 : decode cX7_init 122 = .ok (.newarray .int, 2) := by decide +kernel
theorem dX7_init_124 : decode cX7_init 124 = .ok (.dup, 1) := by decide +kernel
theorem dX7_init_125 : decode cX7_init 125 = .ok (.iconst 0, 1) := by decide +kernel
theorem dX7_init_126 : decode cX7_init 126 = .ok (.iconst 1, 1) := by decide +kernel
theorem dX7_init_127 : decode cX7_init 127 = .ok (.iastore, 1) := by decide +kernel
theorem dX7_init_128 : decode cX7_init 128 = .ok (.dup, 1) := by decide +kernel
theorem dX7_init_129 : decode cX7_init 129 = .ok (.iconst 1, 1) := by decide +kernel
theorem dX7_init_130 : decode cX7_init 130 = .ok (.iconst 1, 1) := by decide +kernel
theorem dX7_init_131 : decode cX7_init 131 = .ok (.iastore, 1) := by decide +kernel
theorem dX7_init_132 : decode cX7_init 132 = .ok (.dup, 1) := by decide +kernel
theorem dX7_init_133 : decode cX7_init 133 = .ok (.iconst 2, 1) := by decide +kernel
theorem dX7_init_134 : decode cX7_init 134 = .ok (.iconst 1, 1) := by decide +kernel
theorem dX7_init_135 : decode cX7_init 135 = .ok (.iastore, 1) := by decide +kernel
theorem dX7_init_136 : decode cX7_init 136 = .ok (.dup, 1) := by decide +kernel
theorem dX7_init_137 : decode cX7_init 137 = .ok (.iconst 3, 1) := by decide +kernel
theorem dX7_init_138 : decode cX7_init 138 = .ok (.iconst 1, 1) := by decide +kernel
theorem dX7_init_139 : decode cX7_init 139 = .ok (.iastore, 1) := by decide +kernel
theorem dX7_init_140 : decode cX7_init 140 = .ok (.dup, 1) := by decide +kernel
theorem dX7_init_141 : decode cX7_init 141 = .ok (.iconst 4, 1) := by decide +kernel
theorem dX7_init_142 : decode cX7_init 142 = .ok (.iconst 1, 1) := by decide +kernel
theorem dX7_init_143 : decode cX7_init 143 = .ok (.iastore, 1) := by decide +kernel
theorem dX7_init_144 : decode cX7_init 144 = .ok (.dup, 1) := by decide +kernel
theorem dX7_init_145 : decode cX7_init 145 = .ok (.iconst 5, 1) := by decide +kernel
theorem dX7_init_146 : decode cX7_init 146 = .ok (.iconst 1, 1) := by decide +kernel
theorem dX7_init_147 : decode cX7_init 147 = .ok (.iastore, 1) := by decide +kernel
theorem dX7_init_148 : decode cX7_init 148 = .ok (.dup, 1) := by decide +kernel
theorem dX7_init_149 : decode cX7_init 149 = .ok (.bipush 6, 2) := by decide +kernel
theorem dX7_init_151 : decode cX7_init 151 = .ok (.iconst 1, 1) := by decide +kernel
theorem dX7_init_152 : decode cX7_init 152 = .ok (.iastore, 1) := by decide +kernel
theorem dX7_init_153 : decode cX7_init 153 = .ok (.dup, 1) := by decide +kernel
theorem dX7_init_154 : decode cX7_init 154 = .ok (.bipush 7, 2) := by decide +kernel
theorem dX7_init_156 : decode cX7_init 156 = .ok (.iconst 1, 1) := by decide +kernel
theorem dX7_init_157 : decode cX7_init 157 = .ok (.iastore, 1) := by decide +kernel
theorem dX7_init_158 : decode cX7_init 158 = .ok (.dup, 1) := by decide +kernel
theorem dX7_init_159 : decode cX7_init 159 = .ok (.bipush 8, 2) := by decide +kernel
theorem dX7_init_161 : decode cX7_init 161 = .ok (.iconst 1, 1) := by decide +kernel
theorem dX7_init_162 : decode cX7_init 162 = .ok (.iastore, 1) := by decide +kernel
theorem dX7_init_163 : decode cX7_init 163 = .ok (.dup, 1) := by decide +kernel
theorem dX7_init_164 : decode cX7_init 164 = .ok (.bipush 9, 2) := by decide +kernel
theorem dX7_init_166 : decode cX7_init 166 = .ok (.iconst 1, 1) := by decide +kernel
theorem dX7_init_167 : decode cX7_init 167 = .ok (.iastore, 1) := by decide +kernel
theorem dX7_init_168 : decode cX7_init 168 = .ok (.putfield 37, 3) := by decide +kernel
theorem dX7_init_171 : decode cX7_init 171 = .ok (.aload_n 0, 1) := by decide +kernel
theorem dX7_init_172 : decode cX7_init 172 = .ok (.new 40, 3) := by decide +kernel
theorem dX7_init_175 : decode cX7_init 175 = .ok (.dup, 1) := by decide +kernel
theorem dX7_init_176 : decode cX7_init 176 = .ok (.invokespecial 42, 3) := by decide +kernel
theorem dX7_init_179 : decode cX7_init 179 = .ok (.putfield 43, 3) := by decide +kernel
theorem dX7_init_182 : decode cX7_init 182 = .ok (.aload_n 0, 1) := by decide +kernel
theorem dX7_init_183 : decode cX7_init 183 = .ok (.iconst 1, 1) := by decide +kernel
theorem dX7_init_184 : decode cX7_init 184 = .ok (.putfield 47, 3) := by decide +kernel
theorem dX7_init_187 : decode cX7_init 187 = .ok (.aload_n 0, 1) := by decide +kernel
theorem dX7_init_188 : decode cX7_init 188 = .ok (.new 51, 3) := by decide +kernel
theorem dX7_init_191 : decode cX7_init 191 = .ok (.dup, 1) := by decide +kernel
theorem dX7_init_192 : decode cX7_init 192 = .ok (.invokespecial 53, 3) := by decide +kernel
theorem dX7_init_195 : decode cX7_init 195 = .ok (.putfield 54, 3) := by decide +kernel
theorem dX7_init_198 : decode cX7_init 198 = .ok (.aload_n 0, 1) := by decide +kernel
theorem dX7_init_199 : decode cX7_init 199 = .ok (.iconst 1, 1) := by decide +kernel
theorem dX7_init_200 : decode cX7_init 200 = .ok (.putfield 58, 3) := by decide +kernel
theorem dX7_init_203 : decode cX7_init 203 = .ok (.aload_n 0, 1) := by decide +kernel
theorem dX7_init_204 : decode cX7_init 204 = .ok (.new 61, 3) := by decide +kernel
theorem dX7_init_207 : decode cX7_init 207 = .ok (.dup, 1) := by decide +kernel
theorem dX7_init_208 : decode cX7_init 208 = .ok (.invokespecial 63, 3) := by decide +kernel
theorem dX7_init_211 : decode cX7_init 211 = .ok (.putfield 64, 3) := by decide +kernel
theorem dX7_init_214 : decode cX7_init 214 = .ok (.aload_n 0, 1) := by decide +kernel
theorem dX7_init_215 : decode cX7_init 215 = .ok (.new 68, 3) := by decide +kernel
theorem dX7_init_218 : decode cX7_init 218 = .ok (.dup, 1) := by decide +kernel
theorem dX7_init_219 : decode cX7_init 219 = .ok (.invokespecial 70, 3) := by decide +kernel
theorem dX7_init_222 : decode cX7_init 222 = .ok (.putfield 71, 3) := by decide +kernel
theorem dX7_init_225 : decode cX7_init 225 = .ok (.aload_n 0, 1) := by decide +kernel
theorem dX7_init_226 : decode cX7_init 226 = .ok (.iconst 4, 1) := by decide +kernel
theorem dX7_init_227 : decode cX7_init 227 = .ok (.anewarray 75, 3) := by decide +kernel
theorem dX7_init_230 : decode cX7_init 230 = .ok (.dup, 1) := by decide +kernel
theorem dX7_init_231 : decode cX7_init 231 = .ok (.iconst 0, 1) := by decide +kernel
theorem dX7_init_232 : decode cX7_init 232 = .ok (.new 75, 3) := by decide +kernel
theorem dX7_init_235 : decode cX7_init 235 = .ok (.dup, 1) := by decide +kernel
theorem dX7_init_236 : decode cX7_init 236 = .ok (.invokespecial 77, 3) := by decide +kernel
theorem dX7_init_239 : decode cX7_init 239 = .ok (.aastore, 1) := by decide +kernel
theorem dX7_init_240 : decode cX7_init 240 = .ok (.dup, 1) := by decide +kernel
theorem dX7_init_241 : decode cX7_init 241 = .ok (.iconst 1, 1) := by decide +kernel
theorem dX7_init_242 : decode cX7_init 242 = .ok (.new 75, 3) := by decide +kernel
theorem dX7_init_245 : decode cX7_init 245 = .ok (.dup, 1) := by decide +kernel
theorem dX7_init_246 : decode cX7_init 246 = .ok (.invokespecial 77, 3) := by decide +kernel
theorem dX7_init_249 : decode cX7_init 249 = .ok (.aastore, 1) := by decide +kernel
theorem dX7_init_250 : decode cX7_init 250 = .ok (.dup, 1) := by decide +kernel
theorem dX7_init_251 : decode cX7_init 251 = .ok (.iconst 2, 1) := by decide +kernel
theorem dX7_init_252 : decode cX7_init 252 = .ok (.new 75, 3) := by decide +kernel
theorem dX7_init_255 : decode cX7_init 255 = .ok (.dup, 1) := by decide +kernel
theorem dX7_init_256 : decode cX7_init 256 = .ok (.invokespecial 77, 3) := by decide +kernel
theorem dX7_init_259 : decode cX7_init 259 = .ok (.aastore, 1) := by decide +kernel
theorem dX7_init_260 : decode cX7_init 260 = .ok (.dup, 1) := by decide +kernel
theorem dX7_init_261 : decode cX7_init 261 = .ok (.iconst 3, 1) := by decide +kernel
theorem dX7_init_262 : decode cX7_init 262 = .ok (.new 75, 3) := by decide +kernel
theorem dX7_init_265 : decode cX7_init 265 = .ok (.dup, 1) := by decide +kernel
theorem dX7_init_266 : decode cX7_init 266 = .ok (.invokespecial 77, 3) := by decide +kernel
theorem dX7_init_269 : decode cX7_init 269 = .ok (.aastore, 1) := by decide +kernel
theorem dX7_init_270 : decode cX7_init 270 = .ok (.putfield 78, 3) := by decide +kernel
theorem dX7_init_273 : decode cX7_init 273 = .ok (.return_, 1) := by decide +kernel
theorem dX7_type_0 : decode cX7_type 0 = .ok (.iload_n 1, 1) := by decide +kernel
theorem dX7_type_1 : decode cX7_type 1 = .ok (.iconst 3, 1) := by decide +kernel
theorem dX7_type_2 : decode cX7_type 2 = .ok (.invokestatic 82, 3) := by decide +kernel
theorem dX7_type_5 : decode cX7_type 5 = .ok (.ifCond .ne 14, 3) := by decide +kernel
theorem dX7_type_8 : decode cX7_type 8 = .ok (.iload_n 2, 1) := by decide +kernel
theorem dX7_type_9 : decode cX7_type 9 = .ok (.ifCond .lt 10, 3) := by decide +kernel
theorem dX7_type_12 : decode cX7_type 12 = .ok (.iload_n 2, 1) := by decide +kernel
theorem dX7_type_13 : decode cX7_type 13 = .ok (.sipush 255, 3) := by decide +kernel
theorem dX7_type_16 : decode cX7_type 16 = .ok (.if_icmp .le 6, 3) := by decide +kernel
theorem dX7_type_19 : decode cX7_type 19 = .ok (.bipush (-2), 2) := by decide +kernel
theorem dX7_type_21 : decode cX7_type 21 = .ok (.ireturn, 1) := by decide +kernel
theorem dX7_type_22 : decode cX7_type 22 = .ok (.aload_n 0, 1) := by decide +kernel
theorem dX7_type_23 : decode cX7_type 23 = .ok (.getfield 12, 3) := by decide +kernel
theorem dX7_type_26 : decode cX7_type 26 = .ok (.iload_n 1, 1) := by decide +kernel
theorem dX7_type_27 : decode cX7_type 27 = .ok (.aaload, 1) := by decide +kernel
theorem dX7_type_28 : decode cX7_type 28 = .ok (.invokevirtual 86, 3) := by decide +kernel
theorem dX7_type_31 : decode cX7_type 31 = .ok (.ifCond .eq 6, 3) := by decide +kernel
theorem dX7_type_34 : decode cX7_type 34 = .ok (.bipush (-4), 2) := by decide +kernel
theorem dX7_type_36 : decode cX7_type 36 = .ok (.ireturn, 1) := by decide +kernel
theorem dX7_type_37 : decode cX7_type 37 = .ok (.aload_n 0, 1) := by decide +kernel
theorem dX7_type_38 : decode cX7_type 38 = .ok (.getfield 12, 3) := by decide +kernel
theorem dX7_type_41 : decode cX7_type 41 = .ok (.iload_n 1, 1) := by decide +kernel
theorem dX7_type_42 : decode cX7_type 42 = .ok (.aaload, 1) := by decide +kernel
theorem dX7_type_43 : decode cX7_type 43 = .ok (.iload_n 2, 1) := by decide +kernel
theorem dX7_type_44 : decode cX7_type 44 = .ok (.invokevirtual 90, 3) := by decide +kernel
theorem dX7_type_47 : decode cX7_type 47 = .ok (.aload_n 0, 1) := by decide +kernel
theorem dX7_type_48 : decode cX7_type 48 = .ok (.getfield 30, 3) := by decide +kernel
theorem dX7_type_51 : decode cX7_type 51 = .ok (.iload_n 1, 1) := by decide +kernel
theorem dX7_type_52 : decode cX7_type 52 = .ok (.aaload, 1) := by decide +kernel
theorem dX7_type_53 : decode cX7_type 53 = .ok (.iload_n 2, 1) := by decide +kernel
theorem dX7_type_54 : decode cX7_type 54 = .ok (.invokevirtual 93, 3) := by decide +kernel
theorem dX7_type_57 : decode cX7_type 57 = .ok (.aload_n 0, 1) := by decide +kernel
theorem dX7_type_58 : decode cX7_type 58 = .ok (.invokevirtual 96, 3) := by decide +kernel
theorem dX7_type_61 : decode cX7_type 61 = .ok (.aload_n 0, 1) := by decide +kernel
theorem dX7_type_62 : decode cX7_type 62 = .ok (.getfield 12, 3) := by decide +kernel
theorem dX7_type_65 : decode cX7_type 65 = .ok (.iload_n 1, 1) := by decide +kernel
theorem dX7_type_66 : decode cX7_type 66 = .ok (.aaload, 1) := by decide +kernel
theorem dX7_type_67 : decode cX7_type 67 = .ok (.invokevirtual 99, 3) := by decide +kernel
theorem dX7_type_70 : decode cX7_type 70 = .ok (.ireturn, 1) := by decide +kernel
theorem dX7_wipe_0 : decode cX7_wipe 0 = .ok (.iload_n 1, 1) := by decide +kernel
theorem dX7_wipe_1 : decode cX7_wipe 1 = .ok (.iconst 3, 1) := by decide +kernel
theorem dX7_wipe_2 : decode cX7_wipe 2 = .ok (.invokestatic 82, 3) := by decide +kernel
theorem dX7_wipe_5 : decode cX7_wipe 5 = .ok (.ifCond .eq 6, 3) := by decide +kernel
theorem dX7_wipe_8 : decode cX7_wipe 8 = .ok (.bipush (-2), 2) := by decide +kernel
theorem dX7_wipe_10 : decode cX7_wipe 10 = .ok (.ireturn, 1) := by decide +kernel
theorem dX7_wipe_11 : decode cX7_wipe 11 = .ok (.aload_n 0, 1) := by decide +kernel
theorem dX7_wipe_12 : decode cX7_wipe 12 = .ok (.getfield 12, 3) := by decide +kernel
theorem dX7_wipe_15 : decode cX7_wipe 15 = .ok (.iload_n 1, 1) := by decide +kernel
theorem dX7_wipe_16 : decode cX7_wipe 16 = .ok (.aaload, 1) := by decide +kernel
theorem dX7_wipe_17 : decode cX7_wipe 17 = .ok (.invokevirtual 99, 3) := by decide +kernel
theorem dX7_wipe_20 : decode cX7_wipe 20 = .ok (.istore_n 2, 1) := by decide +kernel
theorem dX7_wipe_21 : decode cX7_wipe 21 = .ok (.aload_n 0, 1) := by decide +kernel
theorem dX7_wipe_22 : decode cX7_wipe 22 = .ok (.getfield 12, 3) := by decide +kernel
theorem dX7_wipe_25 : decode cX7_wipe 25 = .ok (.iload_n 1, 1) := by decide +kernel
theorem dX7_wipe_26 : decode cX7_wipe 26 = .ok (.aaload, 1) := by decide +kernel
theorem dX7_wipe_27 : decode cX7_wipe 27 = .ok (.invokevirtual 103, 3) := by decide +kernel
theorem dX7_wipe_30 : decode cX7_wipe 30 = .ok (.aload_n 0, 1) := by decide +kernel
theorem dX7_wipe_31 : decode cX7_wipe 31 = .ok (.getfield 30, 3) := by decide +kernel
theorem dX7_wipe_34 : decode cX7_wipe 34 = .ok (.iload_n 1, 1) := by decide +kernel
theorem dX7_wipe_35 : decode cX7_wipe 35 = .ok (.aaload, 1) := by decide +kernel
theorem dX7_wipe_36 : decode cX7_wipe 36 = .ok (.invokevirtual 106, 3) := by decide +kernel
theorem dX7_wipe_39 : decode cX7_wipe 39 = .ok (.aload_n 0, 1) := by decide +kernel
theorem dX7_wipe_40 : decode cX7_wipe 40 = .ok (.invokevirtual 96, 3) := by decide +kernel
theorem dX7_wipe_43 : decode cX7_wipe 43 = .ok (.iload_n 2, 1) := by decide +kernel
theorem dX7_wipe_44 : decode cX7_wipe 44 = .ok (.ireturn, 1) := by decide +kernel
theorem dX7_undo_0 : decode cX7_undo 0 = .ok (.iload_n 1, 1) := by decide +kernel
theorem dX7_undo_1 : decode cX7_undo 1 = .ok (.iconst 3, 1) := by decide +kernel
theorem dX7_undo_2 : decode cX7_undo 2 = .ok (.invokestatic 82, 3) := by decide +kernel
theorem dX7_undo_5 : decode cX7_undo 5 = .ok (.ifCond .eq 6, 3) := by decide +kernel
theorem dX7_undo_8 : decode cX7_undo 8 = .ok (.bipush (-2), 2) := by decide +kernel
theorem dX7_undo_10 : decode cX7_undo 10 = .ok (.ireturn, 1) := by decide +kernel
theorem dX7_undo_11 : decode cX7_undo 11 = .ok (.aload_n 0, 1) := by decide +kernel
theorem dX7_undo_12 : decode cX7_undo 12 = .ok (.getfield 12, 3) := by decide +kernel
theorem dX7_undo_15 : decode cX7_undo 15 = .ok (.iload_n 1, 1) := by decide +kernel
theorem dX7_undo_16 : decode cX7_undo 16 = .ok (.aaload, 1) := by decide +kernel
theorem dX7_undo_17 : decode cX7_undo 17 = .ok (.invokevirtual 99, 3) := by decide +kernel
theorem dX7_undo_20 : decode cX7_undo 20 = .ok (.ifCond .ne 6, 3) := by decide +kernel
theorem dX7_undo_23 : decode cX7_undo 23 = .ok (.bipush (-3), 2) := by decide +kernel
theorem dX7_undo_25 : decode cX7_undo 25 = .ok (.ireturn, 1) := by decide +kernel
theorem dX7_undo_26 : decode cX7_undo 26 = .ok (.aload_n 0, 1) := by decide +kernel
theorem dX7_undo_27 : decode cX7_undo 27 = .ok (.getfield 12, 3) := by decide +kernel
theorem dX7_undo_30 : decode cX7_undo 30 = .ok (.iload_n 1, 1) := by decide +kernel
theorem dX7_undo_31 : decode cX7_undo 31 = .ok (.aaload, 1) := by decide +kernel
theorem dX7_undo_32 : decode cX7_undo 32 = .ok (.invokevirtual 109, 3) := by decide +kernel
theorem dX7_undo_35 : decode cX7_undo 35 = .ok (.aload_n 0, 1) := by decide +kernel
theorem dX7_undo_36 : decode cX7_undo 36 = .ok (.getfield 30, 3) := by decide +kernel
theorem dX7_undo_39 : decode cX7_undo 39 = .ok (.iload_n 1, 1) := by decide +kernel
theorem dX7_undo_40 : decode cX7_undo 40 = .ok (.aaload, 1) := by decide +kernel
theorem dX7_undo_41 : decode cX7_undo 41 = .ok (.aload_n 0, 1) := by decide +kernel
theorem dX7_undo_42 : decode cX7_undo 42 = .ok (.getfield 12, 3) := by decide +kernel
theorem dX7_undo_45 : decode cX7_undo 45 = .ok (.iload_n 1, 1) := by decide +kernel
theorem dX7_undo_46 : decode cX7_undo 46 = .ok (.aaload, 1) := by decide +kernel
theorem dX7_undo_47 : decode cX7_undo 47 = .ok (.invokevirtual 112, 3) := by decide +kernel
theorem dX7_undo_50 : decode cX7_undo 50 = .ok (.aload_n 0, 1) := by decide +kernel
theorem dX7_undo_51 : decode cX7_undo 51 = .ok (.invokevirtual 96, 3) := by decide +kernel
theorem dX7_undo_54 : decode cX7_undo 54 = .ok (.aload_n 0, 1) := by decide +kernel
theorem dX7_undo_55 : decode cX7_undo 55 = .ok (.getfield 12, 3) := by decide +kernel
theorem dX7_undo_58 : decode cX7_undo 58 = .ok (.iload_n 1, 1) := by decide +kernel
theorem dX7_undo_59 : decode cX7_undo 59 = .ok (.aaload, 1) := by decide +kernel
theorem dX7_undo_60 : decode cX7_undo 60 = .ok (.invokevirtual 99, 3) := by decide +kernel
theorem dX7_undo_63 : decode cX7_undo 63 = .ok (.ireturn, 1) := by decide +kernel
theorem dX7_fault_0 : decode cX7_fault 0 = .ok (.iload_n 1, 1) := by decide +kernel
theorem dX7_fault_1 : decode cX7_fault 1 = .ok (.iconst 3, 1) := by decide +kernel
theorem dX7_fault_2 : decode cX7_fault 2 = .ok (.invokestatic 82, 3) := by decide +kernel
theorem dX7_fault_5 : decode cX7_fault 5 = .ok (.ifCond .eq 6, 3) := by decide +kernel
theorem dX7_fault_8 : decode cX7_fault 8 = .ok (.bipush (-2), 2) := by decide +kernel
theorem dX7_fault_10 : decode cX7_fault 10 = .ok (.ireturn, 1) := by decide +kernel
theorem dX7_fault_11 : decode cX7_fault 11 = .ok (.aload_n 0, 1) := by decide +kernel
theorem dX7_fault_12 : decode cX7_fault 12 = .ok (.getfield 30, 3) := by decide +kernel
theorem dX7_fault_15 : decode cX7_fault 15 = .ok (.iload_n 1, 1) := by decide +kernel
theorem dX7_fault_16 : decode cX7_fault 16 = .ok (.aaload, 1) := by decide +kernel
theorem dX7_fault_17 : decode cX7_fault 17 = .ok (.invokevirtual 116, 3) := by decide +kernel
theorem dX7_fault_20 : decode cX7_fault 20 = .ok (.ireturn, 1) := by decide +kernel
theorem dX7_matter_0 : decode cX7_matter 0 = .ok (.aload_n 0, 1) := by decide +kernel
theorem dX7_matter_1 : decode cX7_matter 1 = .ok (.iload_n 1, 1) := by decide +kernel
theorem dX7_matter_2 : decode cX7_matter 2 = .ok (.invokevirtual 119, 3) := by decide +kernel
theorem dX7_matter_5 : decode cX7_matter 5 = .ok (.ifCond .ne 12, 3) := by decide +kernel
theorem dX7_matter_8 : decode cX7_matter 8 = .ok (.iload_n 2, 1) := by decide +kernel
theorem dX7_matter_9 : decode cX7_matter 9 = .ok (.bipush 6, 2) := by decide +kernel
theorem dX7_matter_11 : decode cX7_matter 11 = .ok (.invokestatic 82, 3) := by decide +kernel
theorem dX7_matter_14 : decode cX7_matter 14 = .ok (.ifCond .eq 6, 3) := by decide +kernel
theorem dX7_matter_17 : decode cX7_matter 17 = .ok (.bipush (-2), 2) := by decide +kernel
theorem dX7_matter_19 : decode cX7_matter 19 = .ok (.ireturn, 1) := by decide +kernel
theorem dX7_matter_20 : decode cX7_matter 20 = .ok (.aload_n 0, 1) := by decide +kernel
theorem dX7_matter_21 : decode cX7_matter 21 = .ok (.getfield 30, 3) := by decide +kernel
theorem dX7_matter_24 : decode cX7_matter 24 = .ok (.iconst 0, 1) := by decide +kernel
theorem dX7_matter_25 : decode cX7_matter 25 = .ok (.aaload, 1) := by decide +kernel
theorem dX7_matter_26 : decode cX7_matter 26 = .ok (.iload_n 1, 1) := by decide +kernel
theorem dX7_matter_27 : decode cX7_matter 27 = .ok (.iload_n 2, 1) := by decide +kernel
theorem dX7_matter_28 : decode cX7_matter 28 = .ok (.invokevirtual 123, 3) := by decide +kernel
theorem dX7_matter_31 : decode cX7_matter 31 = .ok (.ireturn, 1) := by decide +kernel
theorem dX7_set_0 : decode cX7_set 0 = .ok (.iload_n 1, 1) := by decide +kernel
theorem dX7_set_1 : decode cX7_set 1 = .ok (.iconst 4, 1) := by decide +kernel
theorem dX7_set_2 : decode cX7_set 2 = .ok (.invokestatic 82, 3) := by decide +kernel
theorem dX7_set_5 : decode cX7_set 5 = .ok (.ifCond .ne 21, 3) := by decide +kernel
theorem dX7_set_8 : decode cX7_set 8 = .ok (.iload_n 2, 1) := by decide +kernel
theorem dX7_set_9 : decode cX7_set 9 = .ok (.getstatic 127, 3) := by decide +kernel
theorem dX7_set_12 : decode cX7_set 12 = .ok (.iload_n 1, 1) := by decide +kernel
theorem dX7_set_13 : decode cX7_set 13 = .ok (.iaload, 1) := by decide +kernel
theorem dX7_set_14 : decode cX7_set 14 = .ok (.if_icmp .lt 12, 3) := by decide +kernel
theorem dX7_set_17 : decode cX7_set 17 = .ok (.iload_n 2, 1) := by decide +kernel
theorem dX7_set_18 : decode cX7_set 18 = .ok (.getstatic 130, 3) := by decide +kernel
theorem dX7_set_21 : decode cX7_set 21 = .ok (.iload_n 1, 1) := by decide +kernel
theorem dX7_set_22 : decode cX7_set 22 = .ok (.iaload, 1) := by decide +kernel
theorem dX7_set_23 : decode cX7_set 23 = .ok (.if_icmp .le 6, 3) := by decide +kernel
theorem dX7_set_26 : decode cX7_set 26 = .ok (.bipush (-2), 2) := by decide +kernel
theorem dX7_set_28 : decode cX7_set 28 = .ok (.ireturn, 1) := by decide +kernel
theorem dX7_set_29 : decode cX7_set 29 = .ok (.aload_n 0, 1) := by decide +kernel
theorem dX7_set_30 : decode cX7_set 30 = .ok (.getfield 34, 3) := by decide +kernel
theorem dX7_set_33 : decode cX7_set 33 = .ok (.iload_n 1, 1) := by decide +kernel
theorem dX7_set_34 : decode cX7_set 34 = .ok (.iaload, 1) := by decide +kernel
theorem dX7_set_35 : decode cX7_set 35 = .ok (.istore_n 3, 1) := by decide +kernel
theorem dX7_set_36 : decode cX7_set 36 = .ok (.aload_n 0, 1) := by decide +kernel
theorem dX7_set_37 : decode cX7_set 37 = .ok (.getfield 34, 3) := by decide +kernel
theorem dX7_set_40 : decode cX7_set 40 = .ok (.iload_n 1, 1) := by decide +kernel
theorem dX7_set_41 : decode cX7_set 41 = .ok (.iload_n 2, 1) := by decide +kernel
theorem dX7_set_42 : decode cX7_set 42 = .ok (.iastore, 1) := by decide +kernel
theorem dX7_set_43 : decode cX7_set 43 = .ok (.aload_n 0, 1) := by decide +kernel
theorem dX7_set_44 : decode cX7_set 44 = .ok (.invokevirtual 96, 3) := by decide +kernel
theorem dX7_set_47 : decode cX7_set 47 = .ok (.iload_n 3, 1) := by decide +kernel
theorem dX7_set_48 : decode cX7_set 48 = .ok (.ireturn, 1) := by decide +kernel
theorem dX7_worth_0 : decode cX7_worth 0 = .ok (.iload_n 1, 1) := by decide +kernel
theorem dX7_worth_1 : decode cX7_worth 1 = .ok (.bipush 10, 2) := by decide +kernel
theorem dX7_worth_3 : decode cX7_worth 3 = .ok (.invokestatic 82, 3) := by decide +kernel
theorem dX7_worth_6 : decode cX7_worth 6 = .ok (.ifCond .ne 15, 3) := by decide +kernel
theorem dX7_worth_9 : decode cX7_worth 9 = .ok (.iload_n 2, 1) := by decide +kernel
theorem dX7_worth_10 : decode cX7_worth 10 = .ok (.bipush (-9), 2) := by decide +kernel
theorem dX7_worth_12 : decode cX7_worth 12 = .ok (.if_icmp .lt 9, 3) := by decide +kernel
theorem dX7_worth_15 : decode cX7_worth 15 = .ok (.iload_n 2, 1) := by decide +kernel
theorem dX7_worth_16 : decode cX7_worth 16 = .ok (.bipush 9, 2) := by decide +kernel
theorem dX7_worth_18 : decode cX7_worth 18 = .ok (.if_icmp .le 7, 3) := by decide +kernel
theorem dX7_worth_21 : decode cX7_worth 21 = .ok (.sipush (-1002), 3) := by decide +kernel
theorem dX7_worth_24 : decode cX7_worth 24 = .ok (.ireturn, 1) := by decide +kernel
theorem dX7_worth_25 : decode cX7_worth 25 = .ok (.aload_n 0, 1) := by decide +kernel
theorem dX7_worth_26 : decode cX7_worth 26 = .ok (.getfield 37, 3) := by decide +kernel
theorem dX7_worth_29 : decode cX7_worth 29 = .ok (.iload_n 1, 1) := by decide +kernel
theorem dX7_worth_30 : decode cX7_worth 30 = .ok (.iaload, 1) := by decide +kernel
theorem dX7_worth_31 : decode cX7_worth 31 = .ok (.istore_n 3, 1) := by decide +kernel
theorem dX7_worth_32 : decode cX7_worth 32 = .ok (.aload_n 0, 1) := by decide +kernel
theorem dX7_worth_33 : decode cX7_worth 33 = .ok (.getfield 37, 3) := by decide +kernel
theorem dX7_worth_36 : decode cX7_worth 36 = .ok (.iload_n 1, 1) := by decide +kernel
theorem dX7_worth_37 : decode cX7_worth 37 = .ok (.iload_n 2, 1) := by decide +kernel
theorem dX7_worth_38 : decode cX7_worth 38 = .ok (.iastore, 1) := by decide +kernel
theorem dX7_worth_39 : decode cX7_worth 39 = .ok (.iload_n 3, 1) := by decide +kernel
theorem dX7_worth_40 : decode cX7_worth 40 = .ok (.ireturn, 1) := by decide +kernel
theorem dX7_read_0 : decode cX7_read 0 = .ok (.iload_n 1, 1) := by decide +kernel
theorem dX7_read_1 : decode cX7_read 1 = .ok (.iconst 4, 1) := by decide +kernel
theorem dX7_read_2 : decode cX7_read 2 = .ok (.invokestatic 82, 3) := by decide +kernel
theorem dX7_read_5 : decode cX7_read 5 = .ok (.ifCond .eq 6, 3) := by decide +kernel
theorem dX7_read_8 : decode cX7_read 8 = .ok (.bipush (-2), 2) := by decide +kernel
theorem dX7_read_10 : decode cX7_read 10 = .ok (.ireturn, 1) := by decide +kernel
theorem dX7_read_11 : decode cX7_read 11 = .ok (.aload_n 0, 1) := by decide +kernel
theorem dX7_read_12 : decode cX7_read 12 = .ok (.getfield 78, 3) := by decide +kernel
theorem dX7_read_15 : decode cX7_read 15 = .ok (.iload_n 1, 1) := by decide +kernel
theorem dX7_read_16 : decode cX7_read 16 = .ok (.aaload, 1) := by decide +kernel
theorem dX7_read_17 : decode cX7_read 17 = .ok (.invokevirtual 133, 3) := by decide +kernel
theorem dX7_read_20 : decode cX7_read 20 = .ok (.ifCond .eq 9, 3) := by decide +kernel
theorem dX7_read_23 : decode cX7_read 23 = .ok (.aload_n 0, 1) := by decide +kernel
theorem dX7_read_24 : decode cX7_read 24 = .ok (.iconst 1, 1) := by decide +kernel
theorem dX7_read_25 : decode cX7_read 25 = .ok (.invokevirtual 136, 3) := by decide +kernel
theorem dX7_read_28 : decode cX7_read 28 = .ok (.ireturn, 1) := by decide +kernel
theorem dX7_read_29 : decode cX7_read 29 = .ok (.aload_n 0, 1) := by decide +kernel
theorem dX7_read_30 : decode cX7_read 30 = .ok (.getfield 64, 3) := by decide +kernel
theorem dX7_read_33 : decode cX7_read 33 = .ok (.invokevirtual 140, 3) := by decide +kernel
theorem dX7_read_36 : decode cX7_read 36 = .ok (.istore_n 2, 1) := by decide +kernel
theorem dX7_read_37 : decode cX7_read 37 = .ok (.iconst 0, 1) := by decide +kernel
theorem dX7_read_38 : decode cX7_read 38 = .ok (.istore_n 3, 1) := by decide +kernel
theorem dX7_read_39 : decode cX7_read 39 = .ok (.iload_n 3, 1) := by decide +kernel
theorem dX7_read_40 : decode cX7_read 40 = .ok (.iconst 1, 1) := by decide +kernel
theorem dX7_read_41 : decode cX7_read 41 = .ok (.iadd, 1) := by decide +kernel
theorem dX7_read_42 : decode cX7_read 42 = .ok (.aload_n 0, 1) := by decide +kernel
theorem dX7_read_43 : decode cX7_read 43 = .ok (.getfield 78, 3) := by decide +kernel
theorem dX7_read_46 : decode cX7_read 46 = .ok (.iload_n 1, 1) := by decide +kernel
theorem dX7_read_47 : decode cX7_read 47 = .ok (.aaload, 1) := by decide +kernel
theorem dX7_read_48 : decode cX7_read 48 = .ok (.invokevirtual 143, 3) := by decide +kernel
theorem dX7_read_51 : decode cX7_read 51 = .ok (.if_icmp .ge 69, 3) := by decide +kernel
theorem dX7_read_54 : decode cX7_read 54 = .ok (.aload_n 0, 1) := by decide +kernel
theorem dX7_read_55 : decode cX7_read 55 = .ok (.getfield 78, 3) := by decide +kernel
theorem dX7_read_58 : decode cX7_read 58 = .ok (.iload_n 1, 1) := by decide +kernel
theorem dX7_read_59 : decode cX7_read 59 = .ok (.aaload, 1) := by decide +kernel
theorem dX7_read_60 : decode cX7_read 60 = .ok (.iload_n 3, 1) := by decide +kernel
theorem dX7_read_61 : decode cX7_read 61 = .ok (.invokevirtual 144, 3) := by decide +kernel
theorem dX7_read_64 : decode cX7_read 64 = .ok (.istore 4, 2) := by decide +kernel
theorem dX7_read_66 : decode cX7_read 66 = .ok (.aload_n 0, 1) := by decide +kernel
theorem dX7_read_67 : decode cX7_read 67 = .ok (.getfield 78, 3) := by decide +kernel
theorem dX7_read_70 : decode cX7_read 70 = .ok (.iload_n 1, 1) := by decide +kernel
theorem dX7_read_71 : decode cX7_read 71 = .ok (.aaload, 1) := by decide +kernel
theorem dX7_read_72 : decode cX7_read 72 = .ok (.iload_n 3, 1) := by decide +kernel
theorem dX7_read_73 : decode cX7_read 73 = .ok (.iconst 1, 1) := by decide +kernel
theorem dX7_read_74 : decode cX7_read 74 = .ok (.iadd, 1) := by decide +kernel
theorem dX7_read_75 : decode cX7_read 75 = .ok (.invokevirtual 144, 3) := by decide +kernel
theorem dX7_read_78 : decode cX7_read 78 = .ok (.istore 5, 2) := by decide +kernel
theorem dX7_read_80 : decode cX7_read 80 = .ok (.iload 4, 2) := by decide +kernel
theorem dX7_read_82 : decode cX7_read 82 = .ok (.iload 5, 2) := by decide +kernel
theorem dX7_read_84 : decode cX7_read 84 = .ok (.invokestatic 147, 3) := by decide +kernel
theorem dX7_read_87 : decode cX7_read 87 = .ok (.ifCond .ne 33, 3) := by decide +kernel
theorem dX7_read_90 : decode cX7_read 90 = .ok (.aload_n 0, 1) := by decide +kernel
theorem dX7_read_91 : decode cX7_read 91 = .ok (.getfield 64, 3) := by decide +kernel
theorem dX7_read_94 : decode cX7_read 94 = .ok (.invokevirtual 150, 3) := by decide +kernel
theorem dX7_read_97 : decode cX7_read 97 = .ok (.ifCond .eq 6, 3) := by decide +kernel
theorem dX7_read_100 : decode cX7_read 100 = .ok (.goto 20, 3) := by decide +kernel
theorem dX7_read_103 : decode cX7_read 103 = .ok (.aload_n 0, 1) := by decide +kernel
theorem dX7_read_104 : decode cX7_read 104 = .ok (.getfield 64, 3) := by decide +kernel
theorem dX7_read_107 : decode cX7_read 107 = .ok (.iload 4, 2) := by decide +kernel
theorem dX7_read_109 : decode cX7_read 109 = .ok (.iload 5, 2) := by decide +kernel
theorem dX7_read_111 : decode cX7_read 111 = .ok (.invokevirtual 151, 3) := by decide +kernel
theorem dX7_read_114 : decode cX7_read 114 = .ok (.iinc 3 2, 3) := by decide +kernel
theorem dX7_read_117 : decode cX7_read 117 = .ok (.goto (-78), 3) := by decide +kernel
theorem dX7_read_120 : decode cX7_read 120 = .ok (.aload_n 0, 1) := by decide +kernel
theorem dX7_read_121 : decode cX7_read 121 = .ok (.getfield 64, 3) := by decide +kernel
theorem dX7_read_124 : decode cX7_read 124 = .ok (.invokevirtual 140, 3) := by decide +kernel
theorem dX7_read_127 : decode cX7_read 127 = .ok (.iload_n 2, 1) := by decide +kernel
theorem dX7_read_128 : decode cX7_read 128 = .ok (.isub, 1) := by decide +kernel
theorem dX7_read_129 : decode cX7_read 129 = .ok (.ireturn, 1) := by decide +kernel
theorem dX7_rows_0 : decode cX7_rows 0 = .ok (.iload_n 1, 1) := by decide +kernel
theorem dX7_rows_1 : decode cX7_rows 1 = .ok (.iconst (-1), 1) := by decide +kernel
theorem dX7_rows_2 : decode cX7_rows 2 = .ok (.if_icmp .lt 10, 3) := by decide +kernel
theorem dX7_rows_5 : decode cX7_rows 5 = .ok (.iload_n 1, 1) := by decide +kernel
theorem dX7_rows_6 : decode cX7_rows 6 = .ok (.sipush 1024, 3) := by decide +kernel
theorem dX7_rows_9 : decode cX7_rows 9 = .ok (.if_icmp .lt 6, 3) := by decide +kernel
theorem dX7_rows_12 : decode cX7_rows 12 = .ok (.bipush (-2), 2) := by decide +kernel
theorem dX7_rows_14 : decode cX7_rows 14 = .ok (.ireturn, 1) := by decide +kernel
theorem dX7_rows_15 : decode cX7_rows 15 = .ok (.iload_n 1, 1) := by decide +kernel
theorem dX7_rows_16 : decode cX7_rows 16 = .ok (.iconst (-1), 1) := by decide +kernel
theorem dX7_rows_17 : decode cX7_rows 17 = .ok (.if_icmp .ne 13, 3) := by decide +kernel
theorem dX7_rows_20 : decode cX7_rows 20 = .ok (.aload_n 0, 1) := by decide +kernel
theorem dX7_rows_21 : decode cX7_rows 21 = .ok (.invokevirtual 155, 3) := by decide +kernel
theorem dX7_rows_24 : decode cX7_rows 24 = .ok (.invokevirtual 159, 3) := by decide +kernel
theorem dX7_rows_27 : decode cX7_rows 27 = .ok (.goto 11, 3) := by decide +kernel
theorem dX7_rows_30 : decode cX7_rows 30 = .ok (.aload_n 0, 1) := by decide +kernel
theorem dX7_rows_31 : decode cX7_rows 31 = .ok (.invokevirtual 155, 3) := by decide +kernel
theorem dX7_rows_34 : decode cX7_rows 34 = .ok (.iload_n 1, 1) := by decide +kernel
theorem dX7_rows_35 : decode cX7_rows 35 = .ok (.invokevirtual 160, 3) := by decide +kernel
theorem dX7_rows_38 : decode cX7_rows 38 = .ok (.ireturn, 1) := by decide +kernel
theorem dX7_sure_0 : decode cX7_sure 0 = .ok (.iload_n 1, 1) := by decide +kernel
theorem dX7_sure_1 : decode cX7_sure 1 = .ok (.iconst 2, 1) := by decide +kernel
theorem dX7_sure_2 : decode cX7_sure 2 = .ok (.invokestatic 82, 3) := by decide +kernel
theorem dX7_sure_5 : decode cX7_sure 5 = .ok (.ifCond .eq 6, 3) := by decide +kernel
theorem dX7_sure_8 : decode cX7_sure 8 = .ok (.bipush (-2), 2) := by decide +kernel
theorem dX7_sure_10 : decode cX7_sure 10 = .ok (.ireturn, 1) := by decide +kernel
theorem dX7_sure_11 : decode cX7_sure 11 = .ok (.iload_n 1, 1) := by decide +kernel
theorem dX7_sure_12 : decode cX7_sure 12 = .ok (.iconst 1, 1) := by decide +kernel
theorem dX7_sure_13 : decode cX7_sure 13 = .ok (.if_icmp .ne 13, 3) := by decide +kernel
theorem dX7_sure_16 : decode cX7_sure 16 = .ok (.aload_n 0, 1) := by decide +kernel
theorem dX7_sure_17 : decode cX7_sure 17 = .ok (.invokevirtual 155, 3) := by decide +kernel
theorem dX7_sure_20 : decode cX7_sure 20 = .ok (.invokevirtual 163, 3) := by decide +kernel
theorem dX7_sure_23 : decode cX7_sure 23 = .ok (.goto 10, 3) := by decide +kernel
theorem dX7_sure_26 : decode cX7_sure 26 = .ok (.aload_n 0, 1) := by decide +kernel
theorem dX7_sure_27 : decode cX7_sure 27 = .ok (.invokevirtual 155, 3) := by decide +kernel
theorem dX7_sure_30 : decode cX7_sure 30 = .ok (.invokevirtual 166, 3) := by decide +kernel
theorem dX7_sure_33 : decode cX7_sure 33 = .ok (.ireturn, 1) := by decide +kernel
theorem dX7_cannot_0 : decode cX7_cannot 0 = .ok (.iload_n 1, 1) := by decide +kernel
theorem dX7_cannot_1 : decode cX7_cannot 1 = .ok (.iconst 2, 1) := by decide +kernel
theorem dX7_cannot_2 : decode cX7_cannot 2 = .ok (.invokestatic 82, 3) := by decide +kernel
theorem dX7_cannot_5 : decode cX7_cannot 5 = .ok (.ifCond .eq 6, 3) := by decide +kernel
theorem dX7_cannot_8 : decode cX7_cannot 8 = .ok (.bipush (-2), 2) := by decide +kernel
theorem dX7_cannot_10 : decode cX7_cannot 10 = .ok (.ireturn, 1) := by decide +kernel
theorem dX7_cannot_11 : decode cX7_cannot 11 = .ok (.aload_n 0, 1) := by decide +kernel
theorem dX7_cannot_12 : decode cX7_cannot 12 = .ok (.invokevirtual 155, 3) := by decide +kernel
theorem dX7_cannot_15 : decode cX7_cannot 15 = .ok (.invokevirtual 169, 3) := by decide +kernel
theorem dX7_cannot_18 : decode cX7_cannot 18 = .ok (.istore_n 2, 1) := by decide +kernel
theorem dX7_cannot_19 : decode cX7_cannot 19 = .ok (.iload_n 1, 1) := by decide +kernel
theorem dX7_cannot_20 : decode cX7_cannot 20 = .ok (.iconst 1, 1) := by decide +kernel
theorem dX7_cannot_21 : decode cX7_cannot 21 = .ok (.if_icmp .eq 8, 3) := by decide +kernel
theorem dX7_cannot_24 : decode cX7_cannot 24 = .ok (.iload_n 2, 1) := by decide +kernel
theorem dX7_cannot_25 : decode cX7_cannot 25 = .ok (.iconst (-1), 1) := by decide +kernel
theorem dX7_cannot_26 : decode cX7_cannot 26 = .ok (.if_icmp .ne 7, 3) := by decide +kernel
theorem dX7_cannot_29 : decode cX7_cannot 29 = .ok (.iload_n 2, 1) := by decide +kernel
theorem dX7_cannot_30 : decode cX7_cannot 30 = .ok (.goto 7, 3) := by decide +kernel
theorem dX7_cannot_33 : decode cX7_cannot 33 = .ok (.iload_n 2, 1) := by decide +kernel
theorem dX7_cannot_34 : decode cX7_cannot 34 = .ok (.invokestatic 172, 3) := by decide +kernel
theorem dX7_cannot_37 : decode cX7_cannot 37 = .ok (.ireturn, 1) := by decide +kernel
theorem dX7_freed_0 : decode cX7_freed 0 = .ok (.iload_n 1, 1) := by decide +kernel
theorem dX7_freed_1 : decode cX7_freed 1 = .ok (.iconst 2, 1) := by decide +kernel
theorem dX7_freed_2 : decode cX7_freed 2 = .ok (.invokestatic 82, 3) := by decide +kernel
theorem dX7_freed_5 : decode cX7_freed 5 = .ok (.ifCond .eq 6, 3) := by decide +kernel
theorem dX7_freed_8 : decode cX7_freed 8 = .ok (.bipush (-2), 2) := by decide +kernel
theorem dX7_freed_10 : decode cX7_freed 10 = .ok (.ireturn, 1) := by decide +kernel
theorem dX7_freed_11 : decode cX7_freed 11 = .ok (.aload_n 0, 1) := by decide +kernel
theorem dX7_freed_12 : decode cX7_freed 12 = .ok (.invokevirtual 155, 3) := by decide +kernel
theorem dX7_freed_15 : decode cX7_freed 15 = .ok (.invokevirtual 177, 3) := by decide +kernel
theorem dX7_freed_18 : decode cX7_freed 18 = .ok (.istore_n 2, 1) := by decide +kernel
theorem dX7_freed_19 : decode cX7_freed 19 = .ok (.iload_n 1, 1) := by decide +kernel
theorem dX7_freed_20 : decode cX7_freed 20 = .ok (.iconst 1, 1) := by decide +kernel
theorem dX7_freed_21 : decode cX7_freed 21 = .ok (.if_icmp .ne 7, 3) := by decide +kernel
theorem dX7_freed_24 : decode cX7_freed 24 = .ok (.iload_n 2, 1) := by decide +kernel
theorem dX7_freed_25 : decode cX7_freed 25 = .ok (.goto 7, 3) := by decide +kernel
theorem dX7_freed_28 : decode cX7_freed 28 = .ok (.iload_n 2, 1) := by decide +kernel
theorem dX7_freed_29 : decode cX7_freed 29 = .ok (.invokestatic 172, 3) := by decide +kernel
theorem dX7_freed_32 : decode cX7_freed 32 = .ok (.ireturn, 1) := by decide +kernel
theorem dX7_broken_0 : decode cX7_broken 0 = .ok (.iload_n 1, 1) := by decide +kernel
theorem dX7_broken_1 : decode cX7_broken 1 = .ok (.invokestatic 180, 3) := by decide +kernel
theorem dX7_broken_4 : decode cX7_broken 4 = .ok (.ifCond .eq 6, 3) := by decide +kernel
theorem dX7_broken_7 : decode cX7_broken 7 = .ok (.bipush (-2), 2) := by decide +kernel
theorem dX7_broken_9 : decode cX7_broken 9 = .ok (.ireturn, 1) := by decide +kernel
theorem dX7_broken_10 : decode cX7_broken 10 = .ok (.aload_n 0, 1) := by decide +kernel
theorem dX7_broken_11 : decode cX7_broken 11 = .ok (.invokevirtual 155, 3) := by decide +kernel
theorem dX7_broken_14 : decode cX7_broken 14 = .ok (.iload_n 1, 1) := by decide +kernel
theorem dX7_broken_15 : decode cX7_broken 15 = .ok (.invokevirtual 183, 3) := by decide +kernel
theorem dX7_broken_18 : decode cX7_broken 18 = .ok (.ireturn, 1) := by decide +kernel
theorem dX7_nearest_0 : decode cX7_nearest 0 = .ok (.iload_n 1, 1) := by decide +kernel
theorem dX7_nearest_1 : decode cX7_nearest 1 = .ok (.invokestatic 180, 3) := by decide +kernel
theorem dX7_nearest_4 : decode cX7_nearest 4 = .ok (.ifCond .eq 6, 3) := by decide +kernel
theorem dX7_nearest_7 : decode cX7_nearest 7 = .ok (.bipush (-2), 2) := by decide +kernel
theorem dX7_nearest_9 : decode cX7_nearest 9 = .ok (.ireturn, 1) := by decide +kernel
theorem dX7_nearest_10 : decode cX7_nearest 10 = .ok (.aload_n 0, 1) := by decide +kernel
theorem dX7_nearest_11 : decode cX7_nearest 11 = .ok (.invokevirtual 155, 3) := by decide +kernel
theorem dX7_nearest_14 : decode cX7_nearest 14 = .ok (.iload_n 1, 1) := by decide +kernel
theorem dX7_nearest_15 : decode cX7_nearest 15 = .ok (.invokevirtual 186, 3) := by decide +kernel
theorem dX7_nearest_18 : decode cX7_nearest 18 = .ok (.ireturn, 1) := by decide +kernel
theorem dX7_steps_0 : decode cX7_steps 0 = .ok (.iload_n 1, 1) := by decide +kernel
theorem dX7_steps_1 : decode cX7_steps 1 = .ok (.invokestatic 180, 3) := by decide +kernel
theorem dX7_steps_4 : decode cX7_steps 4 = .ok (.ifCond .ne 13, 3) := by decide +kernel
theorem dX7_steps_7 : decode cX7_steps 7 = .ok (.iload_n 2, 1) := by decide +kernel
theorem dX7_steps_8 : decode cX7_steps 8 = .ok (.ifCond .lt 9, 3) := by decide +kernel
theorem dX7_steps_11 : decode cX7_steps 11 = .ok (.iload_n 2, 1) := by decide +kernel
theorem dX7_steps_12 : decode cX7_steps 12 = .ok (.bipush 99, 2) := by decide +kernel
theorem dX7_steps_14 : decode cX7_steps 14 = .ok (.if_icmp .le 6, 3) := by decide +kernel
theorem dX7_steps_17 : decode cX7_steps 17 = .ok (.bipush (-2), 2) := by decide +kernel
theorem dX7_steps_19 : decode cX7_steps 19 = .ok (.ireturn, 1) := by decide +kernel
theorem dX7_steps_20 : decode cX7_steps 20 = .ok (.aload_n 0, 1) := by decide +kernel
theorem dX7_steps_21 : decode cX7_steps 21 = .ok (.invokevirtual 155, 3) := by decide +kernel
theorem dX7_steps_24 : decode cX7_steps 24 = .ok (.iload_n 1, 1) := by decide +kernel
theorem dX7_steps_25 : decode cX7_steps 25 = .ok (.iload_n 2, 1) := by decide +kernel
theorem dX7_steps_26 : decode cX7_steps 26 = .ok (.invokevirtual 189, 3) := by decide +kernel
theorem dX7_steps_29 : decode cX7_steps 29 = .ok (.ireturn, 1) := by decide +kernel
theorem dX7_returns_0 : decode cX7_returns 0 = .ok (.iload_n 1, 1) := by decide +kernel
theorem dX7_returns_1 : decode cX7_returns 1 = .ok (.invokestatic 180, 3) := by decide +kernel
theorem dX7_returns_4 : decode cX7_returns 4 = .ok (.ifCond .ne 11, 3) := by decide +kernel
theorem dX7_returns_7 : decode cX7_returns 7 = .ok (.iload_n 2, 1) := by decide +kernel
theorem dX7_returns_8 : decode cX7_returns 8 = .ok (.iconst 2, 1) := by decide +kernel
theorem dX7_returns_9 : decode cX7_returns 9 = .ok (.invokestatic 82, 3) := by decide +kernel
theorem dX7_returns_12 : decode cX7_returns 12 = .ok (.ifCond .eq 6, 3) := by decide +kernel
theorem dX7_returns_15 : decode cX7_returns 15 = .ok (.bipush (-2), 2) := by decide +kernel
theorem dX7_returns_17 : decode cX7_returns 17 = .ok (.ireturn, 1) := by decide +kernel
theorem dX7_returns_18 : decode cX7_returns 18 = .ok (.aload_n 0, 1) := by decide +kernel
theorem dX7_returns_19 : decode cX7_returns 19 = .ok (.invokevirtual 155, 3) := by decide +kernel
theorem dX7_returns_22 : decode cX7_returns 22 = .ok (.iload_n 1, 1) := by decide +kernel
theorem dX7_returns_23 : decode cX7_returns 23 = .ok (.iload_n 2, 1) := by decide +kernel
theorem dX7_returns_24 : decode cX7_returns 24 = .ok (.iconst 1, 1) := by decide +kernel
theorem dX7_returns_25 : decode cX7_returns 25 = .ok (.if_icmp .ne 7, 3) := by decide +kernel
theorem dX7_returns_28 : decode cX7_returns 28 = .ok (.iconst 1, 1) := by decide +kernel
theorem dX7_returns_29 : decode cX7_returns 29 = .ok (.goto 4, 3) := by decide +kernel
theorem dX7_returns_32 : decode cX7_returns 32 = .ok (.iconst 0, 1) := by decide +kernel
theorem dX7_returns_33 : decode cX7_returns 33 = .ok (.invokevirtual 192, 3) := by decide +kernel
theorem dX7_returns_36 : decode cX7_returns 36 = .ok (.ireturn, 1) := by decide +kernel
theorem dX7_hangs_0 : decode cX7_hangs 0 = .ok (.aload_n 0, 1) := by decide +kernel
theorem dX7_hangs_1 : decode cX7_hangs 1 = .ok (.iload_n 1, 1) := by decide +kernel
theorem dX7_hangs_2 : decode cX7_hangs 2 = .ok (.invokevirtual 119, 3) := by decide +kernel
theorem dX7_hangs_5 : decode cX7_hangs 5 = .ok (.ifCond .eq 6, 3) := by decide +kernel
theorem dX7_hangs_8 : decode cX7_hangs 8 = .ok (.bipush (-2), 2) := by decide +kernel
theorem dX7_hangs_10 : decode cX7_hangs 10 = .ok (.ireturn, 1) := by decide +kernel
theorem dX7_hangs_11 : decode cX7_hangs 11 = .ok (.aload_n 0, 1) := by decide +kernel
theorem dX7_hangs_12 : decode cX7_hangs 12 = .ok (.invokevirtual 155, 3) := by decide +kernel
theorem dX7_hangs_15 : decode cX7_hangs 15 = .ok (.iload_n 1, 1) := by decide +kernel
theorem dX7_hangs_16 : decode cX7_hangs 16 = .ok (.invokevirtual 196, 3) := by decide +kernel
theorem dX7_hangs_19 : decode cX7_hangs 19 = .ok (.ireturn, 1) := by decide +kernel
theorem dX7_rings_0 : decode cX7_rings 0 = .ok (.aload_n 0, 1) := by decide +kernel
theorem dX7_rings_1 : decode cX7_rings 1 = .ok (.invokevirtual 155, 3) := by decide +kernel
theorem dX7_rings_4 : decode cX7_rings 4 = .ok (.invokevirtual 199, 3) := by decide +kernel
theorem dX7_rings_7 : decode cX7_rings 7 = .ok (.ireturn, 1) := by decide +kernel
theorem dX7_had_0 : decode cX7_had 0 = .ok (.iload_n 1, 1) := by decide +kernel
theorem dX7_had_1 : decode cX7_had 1 = .ok (.invokestatic 180, 3) := by decide +kernel
theorem dX7_had_4 : decode cX7_had 4 = .ok (.ifCond .ne 19, 3) := by decide +kernel
theorem dX7_had_7 : decode cX7_had 7 = .ok (.iload_n 2, 1) := by decide +kernel
theorem dX7_had_8 : decode cX7_had 8 = .ok (.bipush 6, 2) := by decide +kernel
theorem dX7_had_10 : decode cX7_had 10 = .ok (.invokestatic 82, 3) := by decide +kernel
theorem dX7_had_13 : decode cX7_had 13 = .ok (.ifCond .ne 10, 3) := by decide +kernel
theorem dX7_had_16 : decode cX7_had 16 = .ok (.iload_n 3, 1) := by decide +kernel
theorem dX7_had_17 : decode cX7_had 17 = .ok (.invokestatic 202, 3) := by decide +kernel
theorem dX7_had_20 : decode cX7_had 20 = .ok (.ifCond .eq 6, 3) := by decide +kernel
theorem dX7_had_23 : decode cX7_had 23 = .ok (.bipush (-2), 2) := by decide +kernel
theorem dX7_had_25 : decode cX7_had 25 = .ok (.ireturn, 1) := by decide +kernel
theorem dX7_had_26 : decode cX7_had 26 = .ok (.iload_n 1, 1) := by decide +kernel
theorem dX7_had_27 : decode cX7_had 27 = .ok (.aload_n 0, 1) := by decide +kernel
theorem dX7_had_28 : decode cX7_had 28 = .ok (.getfield 30, 3) := by decide +kernel
theorem dX7_had_31 : decode cX7_had 31 = .ok (.iconst 0, 1) := by decide +kernel
theorem dX7_had_32 : decode cX7_had 32 = .ok (.aaload, 1) := by decide +kernel
theorem dX7_had_33 : decode cX7_had 33 = .ok (.iconst 0, 1) := by decide +kernel
theorem dX7_had_34 : decode cX7_had 34 = .ok (.iload_n 2, 1) := by decide +kernel
theorem dX7_had_35 : decode cX7_had 35 = .ok (.invokevirtual 205, 3) := by decide +kernel
theorem dX7_had_38 : decode cX7_had 38 = .ok (.iand, 1) := by decide +kernel
theorem dX7_had_39 : decode cX7_had 39 = .ok (.aload_n 0, 1) := by decide +kernel
theorem dX7_had_40 : decode cX7_had 40 = .ok (.getfield 30, 3) := by decide +kernel
theorem dX7_had_43 : decode cX7_had 43 = .ok (.iconst 0, 1) := by decide +kernel
theorem dX7_had_44 : decode cX7_had 44 = .ok (.aaload, 1) := by decide +kernel
theorem dX7_had_45 : decode cX7_had 45 = .ok (.iload_n 3, 1) := by decide +kernel
theorem dX7_had_46 : decode cX7_had 46 = .ok (.aload_n 0, 1) := by decide +kernel
theorem dX7_had_47 : decode cX7_had 47 = .ok (.getfield 34, 3) := by decide +kernel
theorem dX7_had_50 : decode cX7_had 50 = .ok (.iconst 0, 1) := by decide +kernel
theorem dX7_had_51 : decode cX7_had 51 = .ok (.iaload, 1) := by decide +kernel
theorem dX7_had_52 : decode cX7_had 52 = .ok (.iadd, 1) := by decide +kernel
theorem dX7_had_53 : decode cX7_had 53 = .ok (.invokevirtual 208, 3) := by decide +kernel
theorem dX7_had_56 : decode cX7_had 56 = .ok (.iand, 1) := by decide +kernel
theorem dX7_had_57 : decode cX7_had 57 = .ok (.ireturn, 1) := by decide +kernel
theorem dX7_asked_0 : decode cX7_asked 0 = .ok (.iload_n 1, 1) := by decide +kernel
theorem dX7_asked_1 : decode cX7_asked 1 = .ok (.invokestatic 180, 3) := by decide +kernel
theorem dX7_asked_4 : decode cX7_asked 4 = .ok (.ifCond .ne 19, 3) := by decide +kernel
theorem dX7_asked_7 : decode cX7_asked 7 = .ok (.iload_n 2, 1) := by decide +kernel
theorem dX7_asked_8 : decode cX7_asked 8 = .ok (.bipush 6, 2) := by decide +kernel
theorem dX7_asked_10 : decode cX7_asked 10 = .ok (.invokestatic 82, 3) := by decide +kernel
theorem dX7_asked_13 : decode cX7_asked 13 = .ok (.ifCond .ne 10, 3) := by decide +kernel
theorem dX7_asked_16 : decode cX7_asked 16 = .ok (.iload_n 3, 1) := by decide +kernel
theorem dX7_asked_17 : decode cX7_asked 17 = .ok (.invokestatic 202, 3) := by decide +kernel
theorem dX7_asked_20 : decode cX7_asked 20 = .ok (.ifCond .eq 6, 3) := by decide +kernel
theorem dX7_asked_23 : decode cX7_asked 23 = .ok (.bipush (-2), 2) := by decide +kernel
theorem dX7_asked_25 : decode cX7_asked 25 = .ok (.ireturn, 1) := by decide +kernel
theorem dX7_asked_26 : decode cX7_asked 26 = .ok (.iload_n 1, 1) := by decide +kernel
theorem dX7_asked_27 : decode cX7_asked 27 = .ok (.aload_n 0, 1) := by decide +kernel
theorem dX7_asked_28 : decode cX7_asked 28 = .ok (.getfield 30, 3) := by decide +kernel
theorem dX7_asked_31 : decode cX7_asked 31 = .ok (.iconst 0, 1) := by decide +kernel
theorem dX7_asked_32 : decode cX7_asked 32 = .ok (.aaload, 1) := by decide +kernel
theorem dX7_asked_33 : decode cX7_asked 33 = .ok (.iconst 0, 1) := by decide +kernel
theorem dX7_asked_34 : decode cX7_asked 34 = .ok (.iload_n 2, 1) := by decide +kernel
theorem dX7_asked_35 : decode cX7_asked 35 = .ok (.invokevirtual 205, 3) := by decide +kernel
theorem dX7_asked_38 : decode cX7_asked 38 = .ok (.iand, 1) := by decide +kernel
theorem dX7_asked_39 : decode cX7_asked 39 = .ok (.aload_n 0, 1) := by decide +kernel
theorem dX7_asked_40 : decode cX7_asked 40 = .ok (.getfield 30, 3) := by decide +kernel
theorem dX7_asked_43 : decode cX7_asked 43 = .ok (.iconst 0, 1) := by decide +kernel
theorem dX7_asked_44 : decode cX7_asked 44 = .ok (.aaload, 1) := by decide +kernel
theorem dX7_asked_45 : decode cX7_asked 45 = .ok (.iload_n 3, 1) := by decide +kernel
theorem dX7_asked_46 : decode cX7_asked 46 = .ok (.invokevirtual 208, 3) := by decide +kernel
theorem dX7_asked_49 : decode cX7_asked 49 = .ok (.iand, 1) := by decide +kernel
theorem dX7_asked_50 : decode cX7_asked 50 = .ok (.ireturn, 1) := by decide +kernel
theorem dX7_open_0 : decode cX7_open 0 = .ok (.iload_n 1, 1) := by decide +kernel
theorem dX7_open_1 : decode cX7_open 1 = .ok (.invokestatic 180, 3) := by decide +kernel
theorem dX7_open_4 : decode cX7_open 4 = .ok (.ifCond .ne 10, 3) := by decide +kernel
theorem dX7_open_7 : decode cX7_open 7 = .ok (.iload_n 2, 1) := by decide +kernel
theorem dX7_open_8 : decode cX7_open 8 = .ok (.invokestatic 202, 3) := by decide +kernel
theorem dX7_open_11 : decode cX7_open 11 = .ok (.ifCond .eq 6, 3) := by decide +kernel
theorem dX7_open_14 : decode cX7_open 14 = .ok (.bipush (-2), 2) := by decide +kernel
theorem dX7_open_16 : decode cX7_open 16 = .ok (.ireturn, 1) := by decide +kernel
theorem dX7_open_17 : decode cX7_open 17 = .ok (.iload_n 1, 1) := by decide +kernel
theorem dX7_open_18 : decode cX7_open 18 = .ok (.aload_n 0, 1) := by decide +kernel
theorem dX7_open_19 : decode cX7_open 19 = .ok (.getfield 30, 3) := by decide +kernel
theorem dX7_open_22 : decode cX7_open 22 = .ok (.iconst 0, 1) := by decide +kernel
theorem dX7_open_23 : decode cX7_open 23 = .ok (.aaload, 1) := by decide +kernel
theorem dX7_open_24 : decode cX7_open 24 = .ok (.iload_n 2, 1) := by decide +kernel
theorem dX7_open_25 : decode cX7_open 25 = .ok (.aload_n 0, 1) := by decide +kernel
theorem dX7_open_26 : decode cX7_open 26 = .ok (.getfield 34, 3) := by decide +kernel
theorem dX7_open_29 : decode cX7_open 29 = .ok (.iconst 0, 1) := by decide +kernel
theorem dX7_open_30 : decode cX7_open 30 = .ok (.iaload, 1) := by decide +kernel
theorem dX7_open_31 : decode cX7_open 31 = .ok (.iadd, 1) := by decide +kernel
theorem dX7_open_32 : decode cX7_open 32 = .ok (.invokevirtual 208, 3) := by decide +kernel
theorem dX7_open_35 : decode cX7_open 35 = .ok (.iand, 1) := by decide +kernel
theorem dX7_open_36 : decode cX7_open 36 = .ok (.aload_n 0, 1) := by decide +kernel
theorem dX7_open_37 : decode cX7_open 37 = .ok (.getfield 30, 3) := by decide +kernel
theorem dX7_open_40 : decode cX7_open 40 = .ok (.iconst 0, 1) := by decide +kernel
theorem dX7_open_41 : decode cX7_open 41 = .ok (.aaload, 1) := by decide +kernel
theorem dX7_open_42 : decode cX7_open 42 = .ok (.iload_n 2, 1) := by decide +kernel
theorem dX7_open_43 : decode cX7_open 43 = .ok (.invokevirtual 208, 3) := by decide +kernel
theorem dX7_open_46 : decode cX7_open 46 = .ok (.iconst (-1), 1) := by decide +kernel
theorem dX7_open_47 : decode cX7_open 47 = .ok (.ixor, 1) := by decide +kernel
theorem dX7_open_48 : decode cX7_open 48 = .ok (.iand, 1) := by decide +kernel
theorem dX7_open_49 : decode cX7_open 49 = .ok (.ireturn, 1) := by decide +kernel
theorem dX7_best_0 : decode cX7_best 0 = .ok (.iload_n 1, 1) := by decide +kernel
theorem dX7_best_1 : decode cX7_best 1 = .ok (.bipush 6, 2) := by decide +kernel
theorem dX7_best_3 : decode cX7_best 3 = .ok (.invokestatic 82, 3) := by decide +kernel
theorem dX7_best_6 : decode cX7_best 6 = .ok (.ifCond .ne 11, 3) := by decide +kernel
theorem dX7_best_9 : decode cX7_best 9 = .ok (.iload_n 2, 1) := by decide +kernel
theorem dX7_best_10 : decode cX7_best 10 = .ok (.iconst 2, 1) := by decide +kernel
theorem dX7_best_11 : decode cX7_best 11 = .ok (.invokestatic 82, 3) := by decide +kernel
theorem dX7_best_14 : decode cX7_best 14 = .ok (.ifCond .eq 7, 3) := by decide +kernel
theorem dX7_best_17 : decode cX7_best 17 = .ok (.sipush (-1002), 3) := by decide +kernel
theorem dX7_best_20 : decode cX7_best 20 = .ok (.ireturn, 1) := by decide +kernel
theorem dX7_best_21 : decode cX7_best 21 = .ok (.aload_n 0, 1) := by decide +kernel
theorem dX7_best_22 : decode cX7_best 22 = .ok (.getfield 30, 3) := by decide +kernel
theorem dX7_best_25 : decode cX7_best 25 = .ok (.iconst 0, 1) := by decide +kernel
theorem dX7_best_26 : decode cX7_best 26 = .ok (.aaload, 1) := by decide +kernel
theorem dX7_best_27 : decode cX7_best 27 = .ok (.iconst 0, 1) := by decide +kernel
theorem dX7_best_28 : decode cX7_best 28 = .ok (.iload_n 1, 1) := by decide +kernel
theorem dX7_best_29 : decode cX7_best 29 = .ok (.invokevirtual 205, 3) := by decide +kernel
theorem dX7_best_32 : decode cX7_best 32 = .ok (.istore_n 3, 1) := by decide +kernel
theorem dX7_best_33 : decode cX7_best 33 = .ok (.aload_n 0, 1) := by decide +kernel
theorem dX7_best_34 : decode cX7_best 34 = .ok (.aload_n 0, 1) := by decide +kernel
theorem dX7_best_35 : decode cX7_best 35 = .ok (.invokevirtual 155, 3) := by decide +kernel
theorem dX7_best_38 : decode cX7_best 38 = .ok (.iload_n 3, 1) := by decide +kernel
theorem dX7_best_39 : decode cX7_best 39 = .ok (.invokevirtual 211, 3) := by decide +kernel
theorem dX7_best_42 : decode cX7_best 42 = .ok (.istore 4, 2) := by decide +kernel
theorem dX7_best_44 : decode cX7_best 44 = .ok (.iload_n 2, 1) := by decide +kernel
theorem dX7_best_45 : decode cX7_best 45 = .ok (.iconst 1, 1) := by decide +kernel
theorem dX7_best_46 : decode cX7_best 46 = .ok (.if_icmp .ne 6, 3) := by decide +kernel
theorem dX7_best_49 : decode cX7_best 49 = .ok (.iload 4, 2) := by decide +kernel
theorem dX7_best_51 : decode cX7_best 51 = .ok (.ireturn, 1) := by decide +kernel
theorem dX7_best_52 : decode cX7_best 52 = .ok (.iload 4, 2) := by decide +kernel
theorem dX7_best_54 : decode cX7_best 54 = .ok (.iconst (-1), 1) := by decide +kernel
theorem dX7_best_55 : decode cX7_best 55 = .ok (.if_icmp .ne 9, 3) := by decide +kernel
theorem dX7_best_58 : decode cX7_best 58 = .ok (.sipush (-1003), 3) := by decide +kernel
theorem dX7_best_61 : decode cX7_best 61 = .ok (.goto 10, 3) := by decide +kernel
theorem dX7_best_64 : decode cX7_best 64 = .ok (.aload_n 0, 1) := by decide +kernel
theorem dX7_best_65 : decode cX7_best 65 = .ok (.iload 4, 2) := by decide +kernel
theorem dX7_best_67 : decode cX7_best 67 = .ok (.iload_n 3, 1) := by decide +kernel
theorem dX7_best_68 : decode cX7_best 68 = .ok (.invokevirtual 215, 3) := by decide +kernel
theorem dX7_best_71 : decode cX7_best 71 = .ok (.ireturn, 1) := by decide +kernel
theorem dX7_rest_0 : decode cX7_rest 0 = .ok (.iload_n 1, 1) := by decide +kernel
theorem dX7_rest_1 : decode cX7_rest 1 = .ok (.invokestatic 180, 3) := by decide +kernel
theorem dX7_rest_4 : decode cX7_rest 4 = .ok (.ifCond .ne 12, 3) := by decide +kernel
theorem dX7_rest_7 : decode cX7_rest 7 = .ok (.iload_n 2, 1) := by decide +kernel
theorem dX7_rest_8 : decode cX7_rest 8 = .ok (.bipush 6, 2) := by decide +kernel
theorem dX7_rest_10 : decode cX7_rest 10 = .ok (.invokestatic 82, 3) := by decide +kernel
theorem dX7_rest_13 : decode cX7_rest 13 = .ok (.ifCond .eq 6, 3) := by decide +kernel
theorem dX7_rest_16 : decode cX7_rest 16 = .ok (.bipush (-2), 2) := by decide +kernel
theorem dX7_rest_18 : decode cX7_rest 18 = .ok (.ireturn, 1) := by decide +kernel
theorem dX7_rest_19 : decode cX7_rest 19 = .ok (.aload_n 0, 1) := by decide +kernel
theorem dX7_rest_20 : decode cX7_rest 20 = .ok (.invokevirtual 155, 3) := by decide +kernel
theorem dX7_rest_23 : decode cX7_rest 23 = .ok (.astore_n 3, 1) := by decide +kernel
theorem dX7_rest_24 : decode cX7_rest 24 = .ok (.aload_n 3, 1) := by decide +kernel
theorem dX7_rest_25 : decode cX7_rest 25 = .ok (.iload_n 1, 1) := by decide +kernel
theorem dX7_rest_26 : decode cX7_rest 26 = .ok (.invokevirtual 183, 3) := by decide +kernel
theorem dX7_rest_29 : decode cX7_rest 29 = .ok (.ifCond .eq 6, 3) := by decide +kernel
theorem dX7_rest_32 : decode cX7_rest 32 = .ok (.bipush (-3), 2) := by decide +kernel
theorem dX7_rest_34 : decode cX7_rest 34 = .ok (.ireturn, 1) := by decide +kernel
theorem dX7_rest_35 : decode cX7_rest 35 = .ok (.aload_n 0, 1) := by decide +kernel
theorem dX7_rest_36 : decode cX7_rest 36 = .ok (.aload_n 3, 1) := by decide +kernel
theorem dX7_rest_37 : decode cX7_rest 37 = .ok (.iload_n 1, 1) := by decide +kernel
theorem dX7_rest_38 : decode cX7_rest 38 = .ok (.aload_n 0, 1) := by decide +kernel
theorem dX7_rest_39 : decode cX7_rest 39 = .ok (.getfield 30, 3) := by decide +kernel
theorem dX7_rest_42 : decode cX7_rest 42 = .ok (.iconst 0, 1) := by decide +kernel
theorem dX7_rest_43 : decode cX7_rest 43 = .ok (.aaload, 1) := by decide +kernel
theorem dX7_rest_44 : decode cX7_rest 44 = .ok (.iconst 0, 1) := by decide +kernel
theorem dX7_rest_45 : decode cX7_rest 45 = .ok (.iload_n 2, 1) := by decide +kernel
theorem dX7_rest_46 : decode cX7_rest 46 = .ok (.invokevirtual 205, 3) := by decide +kernel
theorem dX7_rest_49 : decode cX7_rest 49 = .ok (.invokevirtual 218, 3) := by decide +kernel
theorem dX7_rest_52 : decode cX7_rest 52 = .ok (.ifCond .eq 7, 3) := by decide +kernel
theorem dX7_rest_55 : decode cX7_rest 55 = .ok (.iconst 0, 1) := by decide +kernel
theorem dX7_rest_56 : decode cX7_rest 56 = .ok (.goto 4, 3) := by decide +kernel
theorem dX7_rest_59 : decode cX7_rest 59 = .ok (.iconst 1, 1) := by decide +kernel
theorem dX7_rest_60 : decode cX7_rest 60 = .ok (.ireturn, 1) := by decide +kernel
theorem dX7_owed_0 : decode cX7_owed 0 = .ok (.iload_n 1, 1) := by decide +kernel
theorem dX7_owed_1 : decode cX7_owed 1 = .ok (.iconst (-1), 1) := by decide +kernel
theorem dX7_owed_2 : decode cX7_owed 2 = .ok (.if_icmp .eq 15, 3) := by decide +kernel
theorem dX7_owed_5 : decode cX7_owed 5 = .ok (.iload_n 1, 1) := by decide +kernel
theorem dX7_owed_6 : decode cX7_owed 6 = .ok (.bipush 6, 2) := by decide +kernel
theorem dX7_owed_8 : decode cX7_owed 8 = .ok (.invokestatic 82, 3) := by decide +kernel
theorem dX7_owed_11 : decode cX7_owed 11 = .ok (.ifCond .eq 6, 3) := by decide +kernel
theorem dX7_owed_14 : decode cX7_owed 14 = .ok (.bipush (-2), 2) := by decide +kernel
theorem dX7_owed_16 : decode cX7_owed 16 = .ok (.ireturn, 1) := by decide +kernel
theorem dX7_owed_17 : decode cX7_owed 17 = .ok (.iload_n 1, 1) := by decide +kernel
theorem dX7_owed_18 : decode cX7_owed 18 = .ok (.iconst (-1), 1) := by decide +kernel
theorem dX7_owed_19 : decode cX7_owed 19 = .ok (.if_icmp .ne 9, 3) := by decide +kernel
theorem dX7_owed_22 : decode cX7_owed 22 = .ok (.sipush 1023, 3) := by decide +kernel
theorem dX7_owed_25 : decode cX7_owed 25 = .ok (.goto 14, 3) := by decide +kernel
theorem dX7_owed_28 : decode cX7_owed 28 = .ok (.aload_n 0, 1) := by decide +kernel
theorem dX7_owed_29 : decode cX7_owed 29 = .ok (.getfield 30, 3) := by decide +kernel
theorem dX7_owed_32 : decode cX7_owed 32 = .ok (.iconst 1, 1) := by decide +kernel
theorem dX7_owed_33 : decode cX7_owed 33 = .ok (.aaload, 1) := by decide +kernel
theorem dX7_owed_34 : decode cX7_owed 34 = .ok (.iconst 1, 1) := by decide +kernel
theorem dX7_owed_35 : decode cX7_owed 35 = .ok (.iload_n 1, 1) := by decide +kernel
theorem dX7_owed_36 : decode cX7_owed 36 = .ok (.invokevirtual 205, 3) := by decide +kernel
theorem dX7_owed_39 : decode cX7_owed 39 = .ok (.istore_n 2, 1) := by decide +kernel
theorem dX7_owed_40 : decode cX7_owed 40 = .ok (.aload_n 0, 1) := by decide +kernel
theorem dX7_owed_41 : decode cX7_owed 41 = .ok (.invokevirtual 222, 3) := by decide +kernel
theorem dX7_owed_44 : decode cX7_owed 44 = .ok (.iload_n 2, 1) := by decide +kernel
theorem dX7_owed_45 : decode cX7_owed 45 = .ok (.invokevirtual 226, 3) := by decide +kernel
theorem dX7_owed_48 : decode cX7_owed 48 = .ok (.ireturn, 1) := by decide +kernel
theorem dX7_lack_0 : decode cX7_lack 0 = .ok (.aload_n 0, 1) := by decide +kernel
theorem dX7_lack_1 : decode cX7_lack 1 = .ok (.invokevirtual 222, 3) := by decide +kernel
theorem dX7_lack_4 : decode cX7_lack 4 = .ok (.invokevirtual 229, 3) := by decide +kernel
theorem dX7_lack_7 : decode cX7_lack 7 = .ok (.ireturn, 1) := by decide +kernel
theorem dX7_unasked_0 : decode cX7_unasked 0 = .ok (.aload_n 0, 1) := by decide +kernel
theorem dX7_unasked_1 : decode cX7_unasked 1 = .ok (.invokevirtual 222, 3) := by decide +kernel
theorem dX7_unasked_4 : decode cX7_unasked 4 = .ok (.invokevirtual 232, 3) := by decide +kernel
theorem dX7_unasked_7 : decode cX7_unasked 7 = .ok (.ireturn, 1) := by decide +kernel
theorem dX7_fines_0 : decode cX7_fines 0 = .ok (.iload_n 1, 1) := by decide +kernel
theorem dX7_fines_1 : decode cX7_fines 1 = .ok (.bipush 6, 2) := by decide +kernel
theorem dX7_fines_3 : decode cX7_fines 3 = .ok (.invokestatic 82, 3) := by decide +kernel
theorem dX7_fines_6 : decode cX7_fines 6 = .ok (.ifCond .eq 6, 3) := by decide +kernel
theorem dX7_fines_9 : decode cX7_fines 9 = .ok (.bipush (-2), 2) := by decide +kernel
theorem dX7_fines_11 : decode cX7_fines 11 = .ok (.ireturn, 1) := by decide +kernel
theorem dX7_fines_12 : decode cX7_fines 12 = .ok (.aload_n 0, 1) := by decide +kernel
theorem dX7_fines_13 : decode cX7_fines 13 = .ok (.invokevirtual 222, 3) := by decide +kernel
theorem dX7_fines_16 : decode cX7_fines 16 = .ok (.aload_n 0, 1) := by decide +kernel
theorem dX7_fines_17 : decode cX7_fines 17 = .ok (.getfield 30, 3) := by decide +kernel
theorem dX7_fines_20 : decode cX7_fines 20 = .ok (.iconst 1, 1) := by decide +kernel
theorem dX7_fines_21 : decode cX7_fines 21 = .ok (.aaload, 1) := by decide +kernel
theorem dX7_fines_22 : decode cX7_fines 22 = .ok (.iconst 1, 1) := by decide +kernel
theorem dX7_fines_23 : decode cX7_fines 23 = .ok (.iload_n 1, 1) := by decide +kernel
theorem dX7_fines_24 : decode cX7_fines 24 = .ok (.invokevirtual 205, 3) := by decide +kernel
theorem dX7_fines_27 : decode cX7_fines 27 = .ok (.invokevirtual 226, 3) := by decide +kernel
theorem dX7_fines_30 : decode cX7_fines 30 = .ok (.aload_n 0, 1) := by decide +kernel
theorem dX7_fines_31 : decode cX7_fines 31 = .ok (.getfield 34, 3) := by decide +kernel
theorem dX7_fines_34 : decode cX7_fines 34 = .ok (.iconst 2, 1) := by decide +kernel
theorem dX7_fines_35 : decode cX7_fines 35 = .ok (.iaload, 1) := by decide +kernel
theorem dX7_fines_36 : decode cX7_fines 36 = .ok (.imul, 1) := by decide +kernel
theorem dX7_fines_37 : decode cX7_fines 37 = .ok (.ireturn, 1) := by decide +kernel
theorem dX7_seen_0 : decode cX7_seen 0 = .ok (.iload_n 1, 1) := by decide +kernel
theorem dX7_seen_1 : decode cX7_seen 1 = .ok (.iload_n 2, 1) := by decide +kernel
theorem dX7_seen_2 : decode cX7_seen 2 = .ok (.invokestatic 147, 3) := by decide +kernel
theorem dX7_seen_5 : decode cX7_seen 5 = .ok (.ifCond .eq 6, 3) := by decide +kernel
theorem dX7_seen_8 : decode cX7_seen 8 = .ok (.bipush (-2), 2) := by decide +kernel
theorem dX7_seen_10 : decode cX7_seen 10 = .ok (.ireturn, 1) := by decide +kernel
theorem dX7_seen_11 : decode cX7_seen 11 = .ok (.aload_n 0, 1) := by decide +kernel
theorem dX7_seen_12 : decode cX7_seen 12 = .ok (.getfield 64, 3) := by decide +kernel
theorem dX7_seen_15 : decode cX7_seen 15 = .ok (.invokevirtual 150, 3) := by decide +kernel
theorem dX7_seen_18 : decode cX7_seen 18 = .ok (.ifCond .eq 6, 3) := by decide +kernel
theorem dX7_seen_21 : decode cX7_seen 21 = .ok (.bipush (-4), 2) := by decide +kernel
theorem dX7_seen_23 : decode cX7_seen 23 = .ok (.ireturn, 1) := by decide +kernel
theorem dX7_seen_24 : decode cX7_seen 24 = .ok (.aload_n 0, 1) := by decide +kernel
theorem dX7_seen_25 : decode cX7_seen 25 = .ok (.getfield 64, 3) := by decide +kernel
theorem dX7_seen_28 : decode cX7_seen 28 = .ok (.iload_n 1, 1) := by decide +kernel
theorem dX7_seen_29 : decode cX7_seen 29 = .ok (.iload_n 2, 1) := by decide +kernel
theorem dX7_seen_30 : decode cX7_seen 30 = .ok (.invokevirtual 151, 3) := by decide +kernel
theorem dX7_seen_33 : decode cX7_seen 33 = .ok (.aload_n 0, 1) := by decide +kernel
theorem dX7_seen_34 : decode cX7_seen 34 = .ok (.getfield 64, 3) := by decide +kernel
theorem dX7_seen_37 : decode cX7_seen 37 = .ok (.invokevirtual 140, 3) := by decide +kernel
theorem dX7_seen_40 : decode cX7_seen 40 = .ok (.ireturn, 1) := by decide +kernel
theorem dX7_forget_0 : decode cX7_forget 0 = .ok (.aload_n 0, 1) := by decide +kernel
theorem dX7_forget_1 : decode cX7_forget 1 = .ok (.getfield 64, 3) := by decide +kernel
theorem dX7_forget_4 : decode cX7_forget 4 = .ok (.invokevirtual 140, 3) := by decide +kernel
theorem dX7_forget_7 : decode cX7_forget 7 = .ok (.istore_n 1, 1) := by decide +kernel
theorem dX7_forget_8 : decode cX7_forget 8 = .ok (.aload_n 0, 1) := by decide +kernel
theorem dX7_forget_9 : decode cX7_forget 9 = .ok (.getfield 64, 3) := by decide +kernel
theorem dX7_forget_12 : decode cX7_forget 12 = .ok (.invokevirtual 235, 3) := by decide +kernel
theorem dX7_forget_15 : decode cX7_forget 15 = .ok (.iload_n 1, 1) := by decide +kernel
theorem dX7_forget_16 : decode cX7_forget 16 = .ok (.ireturn, 1) := by decide +kernel
theorem dX7_refused_0 : decode cX7_refused 0 = .ok (.iload_n 1, 1) := by decide +kernel
theorem dX7_refused_1 : decode cX7_refused 1 = .ok (.iconst 2, 1) := by decide +kernel
theorem dX7_refused_2 : decode cX7_refused 2 = .ok (.invokestatic 82, 3) := by decide +kernel
theorem dX7_refused_5 : decode cX7_refused 5 = .ok (.ifCond .eq 6, 3) := by decide +kernel
theorem dX7_refused_8 : decode cX7_refused 8 = .ok (.bipush (-2), 2) := by decide +kernel
theorem dX7_refused_10 : decode cX7_refused 10 = .ok (.ireturn, 1) := by decide +kernel
theorem dX7_refused_11 : decode cX7_refused 11 = .ok (.aload_n 0, 1) := by decide +kernel
theorem dX7_refused_12 : decode cX7_refused 12 = .ok (.invokevirtual 155, 3) := by decide +kernel
theorem dX7_refused_15 : decode cX7_refused 15 = .ok (.astore_n 2, 1) := by decide +kernel
theorem dX7_refused_16 : decode cX7_refused 16 = .ok (.iconst 0, 1) := by decide +kernel
theorem dX7_refused_17 : decode cX7_refused 17 = .ok (.istore_n 3, 1) := by decide +kernel
theorem dX7_refused_18 : decode cX7_refused 18 = .ok (.aload_n 0, 1) := by decide +kernel
theorem dX7_refused_19 : decode cX7_refused 19 = .ok (.getfield 30, 3) := by decide +kernel
theorem dX7_refused_22 : decode cX7_refused 22 = .ok (.iconst 0, 1) := by decide +kernel
theorem dX7_refused_23 : decode cX7_refused 23 = .ok (.aaload, 1) := by decide +kernel
theorem dX7_refused_24 : decode cX7_refused 24 = .ok (.iconst 3, 1) := by decide +kernel
theorem dX7_refused_25 : decode cX7_refused 25 = .ok (.iconst 0, 1) := by decide +kernel
theorem dX7_refused_26 : decode cX7_refused 26 = .ok (.invokevirtual 205, 3) := by decide +kernel
theorem dX7_refused_29 : decode cX7_refused 29 = .ok (.istore 4, 2) := by decide +kernel
theorem dX7_refused_31 : decode cX7_refused 31 = .ok (.iconst 0, 1) := by decide +kernel
theorem dX7_refused_32 : decode cX7_refused 32 = .ok (.istore 5, 2) := by decide +kernel
theorem dX7_refused_34 : decode cX7_refused 34 = .ok (.iload 5, 2) := by decide +kernel
theorem dX7_refused_36 : decode cX7_refused 36 = .ok (.aload_n 2, 1) := by decide +kernel
theorem dX7_refused_37 : decode cX7_refused 37 = .ok (.invokevirtual 159, 3) := by decide +kernel
theorem dX7_refused_40 : decode cX7_refused 40 = .ok (.if_icmp .ge 39, 3) := by decide +kernel
theorem dX7_refused_43 : decode cX7_refused 43 = .ok (.aload_n 2, 1) := by decide +kernel
theorem dX7_refused_44 : decode cX7_refused 44 = .ok (.iload 5, 2) := by decide +kernel
theorem dX7_refused_46 : decode cX7_refused 46 = .ok (.invokevirtual 160, 3) := by decide +kernel
theorem dX7_refused_49 : decode cX7_refused 49 = .ok (.istore 6, 2) := by decide +kernel
theorem dX7_refused_51 : decode cX7_refused 51 = .ok (.aload_n 0, 1) := by decide +kernel
theorem dX7_refused_52 : decode cX7_refused 52 = .ok (.getfield 64, 3) := by decide +kernel
theorem dX7_refused_55 : decode cX7_refused 55 = .ok (.iload 6, 2) := by decide +kernel
theorem dX7_refused_57 : decode cX7_refused 57 = .ok (.invokevirtual 236, 3) := by decide +kernel
theorem dX7_refused_60 : decode cX7_refused 60 = .ok (.ifCond .eq 13, 3) := by decide +kernel
theorem dX7_refused_63 : decode cX7_refused 63 = .ok (.iinc 3 1, 3) := by decide +kernel
theorem dX7_refused_66 : decode cX7_refused 66 = .ok (.iload 4, 2) := by decide +kernel
theorem dX7_refused_68 : decode cX7_refused 68 = .ok (.iload 6, 2) := by decide +kernel
theorem dX7_refused_70 : decode cX7_refused 70 = .ok (.iand, 1) := by decide +kernel
theorem dX7_refused_71 : decode cX7_refused 71 = .ok (.istore 4, 2) := by decide +kernel
theorem dX7_refused_73 : decode cX7_refused 73 = .ok (.iinc 5 1, 3) := by decide +kernel
theorem dX7_refused_76 : decode cX7_refused 76 = .ok (.goto (-42), 3) := by decide +kernel
theorem dX7_refused_79 : decode cX7_refused 79 = .ok (.iload_n 1, 1) := by decide +kernel
theorem dX7_refused_80 : decode cX7_refused 80 = .ok (.ifCond .ne 5, 3) := by decide +kernel
theorem dX7_refused_83 : decode cX7_refused 83 = .ok (.iload_n 3, 1) := by decide +kernel
theorem dX7_refused_84 : decode cX7_refused 84 = .ok (.ireturn, 1) := by decide +kernel
theorem dX7_refused_85 : decode cX7_refused 85 = .ok (.iload_n 3, 1) := by decide +kernel
theorem dX7_refused_86 : decode cX7_refused 86 = .ok (.ifCond .ne 7, 3) := by decide +kernel
theorem dX7_refused_89 : decode cX7_refused 89 = .ok (.iconst 0, 1) := by decide +kernel
theorem dX7_refused_90 : decode cX7_refused 90 = .ok (.goto 5, 3) := by decide +kernel
theorem dX7_refused_93 : decode cX7_refused 93 = .ok (.iload 4, 2) := by decide +kernel
theorem dX7_refused_95 : decode cX7_refused 95 = .ok (.ireturn, 1) := by decide +kernel
theorem dX7_lot_0 : decode cX7_lot 0 = .ok (.iload_n 2, 1) := by decide +kernel
theorem dX7_lot_1 : decode cX7_lot 1 = .ok (.ifCond .lt 9, 3) := by decide +kernel
theorem dX7_lot_4 : decode cX7_lot 4 = .ok (.iload_n 2, 1) := by decide +kernel
theorem dX7_lot_5 : decode cX7_lot 5 = .ok (.bipush 99, 2) := by decide +kernel
theorem dX7_lot_7 : decode cX7_lot 7 = .ok (.if_icmp .le 6, 3) := by decide +kernel
theorem dX7_lot_10 : decode cX7_lot 10 = .ok (.bipush (-2), 2) := by decide +kernel
theorem dX7_lot_12 : decode cX7_lot 12 = .ok (.ireturn, 1) := by decide +kernel
theorem dX7_lot_13 : decode cX7_lot 13 = .ok (.aload_n 0, 1) := by decide +kernel
theorem dX7_lot_14 : decode cX7_lot 14 = .ok (.getfield 30, 3) := by decide +kernel
theorem dX7_lot_17 : decode cX7_lot 17 = .ok (.iconst 0, 1) := by decide +kernel
theorem dX7_lot_18 : decode cX7_lot 18 = .ok (.aaload, 1) := by decide +kernel
theorem dX7_lot_19 : decode cX7_lot 19 = .ok (.invokevirtual 239, 3) := by decide +kernel
theorem dX7_lot_22 : decode cX7_lot 22 = .ok (.istore_n 3, 1) := by decide +kernel
theorem dX7_lot_23 : decode cX7_lot 23 = .ok (.aload_n 0, 1) := by decide +kernel
theorem dX7_lot_24 : decode cX7_lot 24 = .ok (.getfield 71, 3) := by decide +kernel
theorem dX7_lot_27 : decode cX7_lot 27 = .ok (.iload_n 1, 1) := by decide +kernel
theorem dX7_lot_28 : decode cX7_lot 28 = .ok (.invokevirtual 240, 3) := by decide +kernel
theorem dX7_lot_31 : decode cX7_lot 31 = .ok (.iload_n 2, 1) := by decide +kernel
theorem dX7_lot_32 : decode cX7_lot 32 = .ok (.ifCond .ne 12, 3) := by decide +kernel
theorem dX7_lot_35 : decode cX7_lot 35 = .ok (.aload_n 0, 1) := by decide +kernel
theorem dX7_lot_36 : decode cX7_lot 36 = .ok (.getfield 71, 3) := by decide +kernel
theorem dX7_lot_39 : decode cX7_lot 39 = .ok (.iload_n 3, 1) := by decide +kernel
theorem dX7_lot_40 : decode cX7_lot 40 = .ok (.invokevirtual 243, 3) := by decide +kernel
theorem dX7_lot_43 : decode cX7_lot 43 = .ok (.ireturn, 1) := by decide +kernel
theorem dX7_lot_44 : decode cX7_lot 44 = .ok (.iconst 0, 1) := by decide +kernel
theorem dX7_lot_45 : decode cX7_lot 45 = .ok (.istore 4, 2) := by decide +kernel
theorem dX7_lot_47 : decode cX7_lot 47 = .ok (.iconst 0, 1) := by decide +kernel
theorem dX7_lot_48 : decode cX7_lot 48 = .ok (.istore 5, 2) := by decide +kernel
theorem dX7_lot_50 : decode cX7_lot 50 = .ok (.iload 5, 2) := by decide +kernel
theorem dX7_lot_52 : decode cX7_lot 52 = .ok (.iload_n 2, 1) := by decide +kernel
theorem dX7_lot_53 : decode cX7_lot 53 = .ok (.if_icmp .ge 30, 3) := by decide +kernel
theorem dX7_lot_56 : decode cX7_lot 56 = .ok (.aload_n 0, 1) := by decide +kernel
theorem dX7_lot_57 : decode cX7_lot 57 = .ok (.invokevirtual 155, 3) := by decide +kernel
theorem dX7_lot_60 : decode cX7_lot 60 = .ok (.aload_n 0, 1) := by decide +kernel
theorem dX7_lot_61 : decode cX7_lot 61 = .ok (.getfield 71, 3) := by decide +kernel
theorem dX7_lot_64 : decode cX7_lot 64 = .ok (.iload_n 3, 1) := by decide +kernel
theorem dX7_lot_65 : decode cX7_lot 65 = .ok (.invokevirtual 243, 3) := by decide +kernel
theorem dX7_lot_68 : decode cX7_lot 68 = .ok (.invokevirtual 183, 3) := by decide +kernel
theorem dX7_lot_71 : decode cX7_lot 71 = .ok (.ifCond .ne 6, 3) := by decide +kernel
theorem dX7_lot_74 : decode cX7_lot 74 = .ok (.iinc 4 1, 3) := by decide +kernel
theorem dX7_lot_77 : decode cX7_lot 77 = .ok (.iinc 5 1, 3) := by decide +kernel
theorem dX7_lot_80 : decode cX7_lot 80 = .ok (.goto (-30), 3) := by decide +kernel
theorem dX7_lot_83 : decode cX7_lot 83 = .ok (.iload 4, 2) := by decide +kernel
theorem dX7_lot_85 : decode cX7_lot 85 = .ok (.ireturn, 1) := by decide +kernel
theorem dX7_sheet_0 : decode cX7_sheet 0 = .ok (.iload_n 1, 1) := by decide +kernel
theorem dX7_sheet_1 : decode cX7_sheet 1 = .ok (.iconst 4, 1) := by decide +kernel
theorem dX7_sheet_2 : decode cX7_sheet 2 = .ok (.invokestatic 82, 3) := by decide +kernel
theorem dX7_sheet_5 : decode cX7_sheet 5 = .ok (.ifCond .ne 17, 3) := by decide +kernel
theorem dX7_sheet_8 : decode cX7_sheet 8 = .ok (.iload_n 2, 1) := by decide +kernel
theorem dX7_sheet_9 : decode cX7_sheet 9 = .ok (.iconst 3, 1) := by decide +kernel
theorem dX7_sheet_10 : decode cX7_sheet 10 = .ok (.invokestatic 82, 3) := by decide +kernel
theorem dX7_sheet_13 : decode cX7_sheet 13 = .ok (.ifCond .ne 9, 3) := by decide +kernel
theorem dX7_sheet_16 : decode cX7_sheet 16 = .ok (.iload_n 3, 1) := by decide +kernel
theorem dX7_sheet_17 : decode cX7_sheet 17 = .ok (.bipush 48, 2) := by decide +kernel
theorem dX7_sheet_19 : decode cX7_sheet 19 = .ok (.if_icmp .le 6, 3) := by decide +kernel
theorem dX7_sheet_22 : decode cX7_sheet 22 = .ok (.bipush (-2), 2) := by decide +kernel
theorem dX7_sheet_24 : decode cX7_sheet 24 = .ok (.ireturn, 1) := by decide +kernel
theorem dX7_sheet_25 : decode cX7_sheet 25 = .ok (.iload_n 3, 1) := by decide +kernel
theorem dX7_sheet_26 : decode cX7_sheet 26 = .ok (.ifCond .ge 9, 3) := by decide +kernel
theorem dX7_sheet_29 : decode cX7_sheet 29 = .ok (.aload_n 0, 1) := by decide +kernel
theorem dX7_sheet_30 : decode cX7_sheet 30 = .ok (.iconst 5, 1) := by decide +kernel
theorem dX7_sheet_31 : decode cX7_sheet 31 = .ok (.invokevirtual 136, 3) := by decide +kernel
theorem dX7_sheet_34 : decode cX7_sheet 34 = .ok (.ireturn, 1) := by decide +kernel
theorem dX7_sheet_35 : decode cX7_sheet 35 = .ok (.aload_n 0, 1) := by decide +kernel
theorem dX7_sheet_36 : decode cX7_sheet 36 = .ok (.getfield 78, 3) := by decide +kernel
theorem dX7_sheet_39 : decode cX7_sheet 39 = .ok (.iload_n 1, 1) := by decide +kernel
theorem dX7_sheet_40 : decode cX7_sheet 40 = .ok (.aaload, 1) := by decide +kernel
theorem dX7_sheet_41 : decode cX7_sheet 41 = .ok (.iload_n 2, 1) := by decide +kernel
theorem dX7_sheet_42 : decode cX7_sheet 42 = .ok (.iload_n 3, 1) := by decide +kernel
theorem dX7_sheet_43 : decode cX7_sheet 43 = .ok (.invokevirtual 246, 3) := by decide +kernel
theorem dX7_sheet_46 : decode cX7_sheet 46 = .ok (.iload_n 3, 1) := by decide +kernel
theorem dX7_sheet_47 : decode cX7_sheet 47 = .ok (.ireturn, 1) := by decide +kernel
theorem dX7_lose_0 : decode cX7_lose 0 = .ok (.iload_n 1, 1) := by decide +kernel
theorem dX7_lose_1 : decode cX7_lose 1 = .ok (.iconst 4, 1) := by decide +kernel
theorem dX7_lose_2 : decode cX7_lose 2 = .ok (.invokestatic 82, 3) := by decide +kernel
theorem dX7_lose_5 : decode cX7_lose 5 = .ok (.ifCond .eq 6, 3) := by decide +kernel
theorem dX7_lose_8 : decode cX7_lose 8 = .ok (.bipush (-2), 2) := by decide +kernel
theorem dX7_lose_10 : decode cX7_lose 10 = .ok (.ireturn, 1) := by decide +kernel
theorem dX7_lose_11 : decode cX7_lose 11 = .ok (.aload_n 0, 1) := by decide +kernel
theorem dX7_lose_12 : decode cX7_lose 12 = .ok (.getfield 78, 3) := by decide +kernel
theorem dX7_lose_15 : decode cX7_lose 15 = .ok (.iload_n 1, 1) := by decide +kernel
theorem dX7_lose_16 : decode cX7_lose 16 = .ok (.aaload, 1) := by decide +kernel
theorem dX7_lose_17 : decode cX7_lose 17 = .ok (.invokevirtual 133, 3) := by decide +kernel
theorem dX7_lose_20 : decode cX7_lose 20 = .ok (.ifCond .eq 9, 3) := by decide +kernel
theorem dX7_lose_23 : decode cX7_lose 23 = .ok (.aload_n 0, 1) := by decide +kernel
theorem dX7_lose_24 : decode cX7_lose 24 = .ok (.iconst 1, 1) := by decide +kernel
theorem dX7_lose_25 : decode cX7_lose 25 = .ok (.invokevirtual 136, 3) := by decide +kernel
theorem dX7_lose_28 : decode cX7_lose 28 = .ok (.ireturn, 1) := by decide +kernel
theorem dX7_lose_29 : decode cX7_lose 29 = .ok (.aload_n 0, 1) := by decide +kernel
theorem dX7_lose_30 : decode cX7_lose 30 = .ok (.getfield 78, 3) := by decide +kernel
theorem dX7_lose_33 : decode cX7_lose 33 = .ok (.iload_n 1, 1) := by decide +kernel
theorem dX7_lose_34 : decode cX7_lose 34 = .ok (.aaload, 1) := by decide +kernel
theorem dX7_lose_35 : decode cX7_lose 35 = .ok (.invokevirtual 143, 3) := by decide +kernel
theorem dX7_lose_38 : decode cX7_lose 38 = .ok (.istore_n 2, 1) := by decide +kernel
theorem dX7_lose_39 : decode cX7_lose 39 = .ok (.aload_n 0, 1) := by decide +kernel
theorem dX7_lose_40 : decode cX7_lose 40 = .ok (.getfield 78, 3) := by decide +kernel
theorem dX7_lose_43 : decode cX7_lose 43 = .ok (.iload_n 1, 1) := by decide +kernel
theorem dX7_lose_44 : decode cX7_lose 44 = .ok (.aaload, 1) := by decide +kernel
theorem dX7_lose_45 : decode cX7_lose 45 = .ok (.invokevirtual 248, 3) := by decide +kernel
theorem dX7_lose_48 : decode cX7_lose 48 = .ok (.iload_n 2, 1) := by decide +kernel
theorem dX7_lose_49 : decode cX7_lose 49 = .ok (.ireturn, 1) := by decide +kernel
theorem dX7_put_0 : decode cX7_put 0 = .ok (.iload_n 1, 1) := by decide +kernel
theorem dX7_put_1 : decode cX7_put 1 = .ok (.iconst 4, 1) := by decide +kernel
theorem dX7_put_2 : decode cX7_put 2 = .ok (.invokestatic 82, 3) := by decide +kernel
theorem dX7_put_5 : decode cX7_put 5 = .ok (.ifCond .eq 6, 3) := by decide +kernel
theorem dX7_put_8 : decode cX7_put 8 = .ok (.bipush (-2), 2) := by decide +kernel
theorem dX7_put_10 : decode cX7_put 10 = .ok (.ireturn, 1) := by decide +kernel
theorem dX7_put_11 : decode cX7_put 11 = .ok (.aload_n 0, 1) := by decide +kernel
theorem dX7_put_12 : decode cX7_put 12 = .ok (.aload_n 0, 1) := by decide +kernel
theorem dX7_put_13 : decode cX7_put 13 = .ok (.getfield 78, 3) := by decide +kernel
theorem dX7_put_16 : decode cX7_put 16 = .ok (.iload_n 1, 1) := by decide +kernel
theorem dX7_put_17 : decode cX7_put 17 = .ok (.aaload, 1) := by decide +kernel
theorem dX7_put_18 : decode cX7_put 18 = .ok (.iload_n 2, 1) := by decide +kernel
theorem dX7_put_19 : decode cX7_put 19 = .ok (.iload_n 3, 1) := by decide +kernel
theorem dX7_put_20 : decode cX7_put 20 = .ok (.invokevirtual 251, 3) := by decide +kernel
theorem dX7_put_23 : decode cX7_put 23 = .ok (.istore 5, 2) := by decide +kernel
theorem dX7_put_25 : decode cX7_put 25 = .ok (.iload 5, 2) := by decide +kernel
theorem dX7_put_27 : decode cX7_put 27 = .ok (.ifCond .eq 6, 3) := by decide +kernel
theorem dX7_put_30 : decode cX7_put 30 = .ok (.iload 5, 2) := by decide +kernel
theorem dX7_put_32 : decode cX7_put 32 = .ok (.ireturn, 1) := by decide +kernel
theorem dX7_put_33 : decode cX7_put 33 = .ok (.aload_n 0, 1) := by decide +kernel
theorem dX7_put_34 : decode cX7_put 34 = .ok (.getfield 78, 3) := by decide +kernel
theorem dX7_put_37 : decode cX7_put 37 = .ok (.iload_n 1, 1) := by decide +kernel
theorem dX7_put_38 : decode cX7_put 38 = .ok (.aaload, 1) := by decide +kernel
theorem dX7_put_39 : decode cX7_put 39 = .ok (.iload_n 3, 1) := by decide +kernel
theorem dX7_put_40 : decode cX7_put 40 = .ok (.iload 4, 2) := by decide +kernel
theorem dX7_put_42 : decode cX7_put 42 = .ok (.invokevirtual 255, 3) := by decide +kernel
theorem dX7_put_45 : decode cX7_put 45 = .ok (.iconst 1, 1) := by decide +kernel
theorem dX7_put_46 : decode cX7_put 46 = .ok (.ireturn, 1) := by decide +kernel
theorem dX7_get_0 : decode cX7_get 0 = .ok (.iload_n 1, 1) := by decide +kernel
theorem dX7_get_1 : decode cX7_get 1 = .ok (.iconst 4, 1) := by decide +kernel
theorem dX7_get_2 : decode cX7_get 2 = .ok (.invokestatic 82, 3) := by decide +kernel
theorem dX7_get_5 : decode cX7_get 5 = .ok (.ifCond .ne 18, 3) := by decide +kernel
theorem dX7_get_8 : decode cX7_get 8 = .ok (.aload_n 0, 1) := by decide +kernel
theorem dX7_get_9 : decode cX7_get 9 = .ok (.aload_n 0, 1) := by decide +kernel
theorem dX7_get_10 : decode cX7_get 10 = .ok (.getfield 78, 3) := by decide +kernel
theorem dX7_get_13 : decode cX7_get 13 = .ok (.iload_n 1, 1) := by decide +kernel
theorem dX7_get_14 : decode cX7_get 14 = .ok (.aaload, 1) := by decide +kernel
theorem dX7_get_15 : decode cX7_get 15 = .ok (.iload_n 2, 1) := by decide +kernel
theorem dX7_get_16 : decode cX7_get 16 = .ok (.iload_n 3, 1) := by decide +kernel
theorem dX7_get_17 : decode cX7_get 17 = .ok (.invokevirtual 251, 3) := by decide +kernel
theorem dX7_get_20 : decode cX7_get 20 = .ok (.ifCond .eq 7, 3) := by decide +kernel
theorem dX7_get_23 : decode cX7_get 23 = .ok (.ldc_w 258, 3) := by decide +kernel
theorem dX7_get_26 : decode cX7_get 26 = .ok (.ireturn, 1) := by decide +kernel
theorem dX7_get_27 : decode cX7_get 27 = .ok (.aload_n 0, 1) := by decide +kernel
theorem dX7_get_28 : decode cX7_get 28 = .ok (.getfield 78, 3) := by decide +kernel
theorem dX7_get_31 : decode cX7_get 31 = .ok (.iload_n 1, 1) := by decide +kernel
theorem dX7_get_32 : decode cX7_get 32 = .ok (.aaload, 1) := by decide +kernel
theorem dX7_get_33 : decode cX7_get 33 = .ok (.iload_n 3, 1) := by decide +kernel
theorem dX7_get_34 : decode cX7_get 34 = .ok (.invokevirtual 144, 3) := by decide +kernel
theorem dX7_get_37 : decode cX7_get 37 = .ok (.ireturn, 1) := by decide +kernel
theorem dX7_copy_0 : decode cX7_copy 0 = .ok (.iload_n 1, 1) := by decide +kernel
theorem dX7_copy_1 : decode cX7_copy 1 = .ok (.iconst 4, 1) := by decide +kernel
theorem dX7_copy_2 : decode cX7_copy 2 = .ok (.invokestatic 82, 3) := by decide +kernel
theorem dX7_copy_5 : decode cX7_copy 5 = .ok (.ifCond .ne 11, 3) := by decide +kernel
theorem dX7_copy_8 : decode cX7_copy 8 = .ok (.iload_n 3, 1) := by decide +kernel
theorem dX7_copy_9 : decode cX7_copy 9 = .ok (.iconst 4, 1) := by decide +kernel
theorem dX7_copy_10 : decode cX7_copy 10 = .ok (.invokestatic 82, 3) := by decide +kernel
theorem dX7_copy_13 : decode cX7_copy 13 = .ok (.ifCond .eq 6, 3) := by decide +kernel
theorem dX7_copy_16 : decode cX7_copy 16 = .ok (.bipush (-2), 2) := by decide +kernel
theorem dX7_copy_18 : decode cX7_copy 18 = .ok (.ireturn, 1) := by decide +kernel
theorem dX7_copy_19 : decode cX7_copy 19 = .ok (.aload_n 0, 1) := by decide +kernel
theorem dX7_copy_20 : decode cX7_copy 20 = .ok (.getfield 78, 3) := by decide +kernel
theorem dX7_copy_23 : decode cX7_copy 23 = .ok (.iload_n 1, 1) := by decide +kernel
theorem dX7_copy_24 : decode cX7_copy 24 = .ok (.aaload, 1) := by decide +kernel
theorem dX7_copy_25 : decode cX7_copy 25 = .ok (.invokevirtual 133, 3) := by decide +kernel
theorem dX7_copy_28 : decode cX7_copy 28 = .ok (.ifCond .ne 15, 3) := by decide +kernel
theorem dX7_copy_31 : decode cX7_copy 31 = .ok (.aload_n 0, 1) := by decide +kernel
theorem dX7_copy_32 : decode cX7_copy 32 = .ok (.getfield 78, 3) := by decide +kernel
theorem dX7_copy_35 : decode cX7_copy 35 = .ok (.iload_n 3, 1) := by decide +kernel
theorem dX7_copy_36 : decode cX7_copy 36 = .ok (.aaload, 1) := by decide +kernel
theorem dX7_copy_37 : decode cX7_copy 37 = .ok (.invokevirtual 133, 3) := by decide +kernel
theorem dX7_copy_40 : decode cX7_copy 40 = .ok (.ifCond .eq 9, 3) := by decide +kernel
theorem dX7_copy_43 : decode cX7_copy 43 = .ok (.aload_n 0, 1) := by decide +kernel
theorem dX7_copy_44 : decode cX7_copy 44 = .ok (.iconst 1, 1) := by decide +kernel
theorem dX7_copy_45 : decode cX7_copy 45 = .ok (.invokevirtual 136, 3) := by decide +kernel
theorem dX7_copy_48 : decode cX7_copy 48 = .ok (.ireturn, 1) := by decide +kernel
theorem dX7_copy_49 : decode cX7_copy 49 = .ok (.aload_n 0, 1) := by decide +kernel
theorem dX7_copy_50 : decode cX7_copy 50 = .ok (.getfield 78, 3) := by decide +kernel
theorem dX7_copy_53 : decode cX7_copy 53 = .ok (.iload_n 1, 1) := by decide +kernel
theorem dX7_copy_54 : decode cX7_copy 54 = .ok (.aaload, 1) := by decide +kernel
theorem dX7_copy_55 : decode cX7_copy 55 = .ok (.invokevirtual 259, 3) := by decide +kernel
theorem dX7_copy_58 : decode cX7_copy 58 = .ok (.aload_n 0, 1) := by decide +kernel
theorem dX7_copy_59 : decode cX7_copy 59 = .ok (.getfield 78, 3) := by decide +kernel
theorem dX7_copy_62 : decode cX7_copy 62 = .ok (.iload_n 3, 1) := by decide +kernel
theorem dX7_copy_63 : decode cX7_copy 63 = .ok (.aaload, 1) := by decide +kernel
theorem dX7_copy_64 : decode cX7_copy 64 = .ok (.invokevirtual 259, 3) := by decide +kernel
theorem dX7_copy_67 : decode cX7_copy 67 = .ok (.if_icmp .eq 9, 3) := by decide +kernel
theorem dX7_copy_70 : decode cX7_copy 70 = .ok (.aload_n 0, 1) := by decide +kernel
theorem dX7_copy_71 : decode cX7_copy 71 = .ok (.iconst 4, 1) := by decide +kernel
theorem dX7_copy_72 : decode cX7_copy 72 = .ok (.invokevirtual 136, 3) := by decide +kernel
theorem dX7_copy_75 : decode cX7_copy 75 = .ok (.ireturn, 1) := by decide +kernel
theorem dX7_copy_76 : decode cX7_copy 76 = .ok (.aload_n 0, 1) := by decide +kernel
theorem dX7_copy_77 : decode cX7_copy 77 = .ok (.getfield 78, 3) := by decide +kernel
theorem dX7_copy_80 : decode cX7_copy 80 = .ok (.iload_n 1, 1) := by decide +kernel
theorem dX7_copy_81 : decode cX7_copy 81 = .ok (.aaload, 1) := by decide +kernel
theorem dX7_copy_82 : decode cX7_copy 82 = .ok (.iload_n 2, 1) := by decide +kernel
theorem dX7_copy_83 : decode cX7_copy 83 = .ok (.iload 5, 2) := by decide +kernel
theorem dX7_copy_85 : decode cX7_copy 85 = .ok (.invokevirtual 262, 3) := by decide +kernel
theorem dX7_copy_88 : decode cX7_copy 88 = .ok (.ifCond .eq 19, 3) := by decide +kernel
theorem dX7_copy_91 : decode cX7_copy 91 = .ok (.aload_n 0, 1) := by decide +kernel
theorem dX7_copy_92 : decode cX7_copy 92 = .ok (.getfield 78, 3) := by decide +kernel
theorem dX7_copy_95 : decode cX7_copy 95 = .ok (.iload_n 3, 1) := by decide +kernel
theorem dX7_copy_96 : decode cX7_copy 96 = .ok (.aaload, 1) := by decide +kernel
theorem dX7_copy_97 : decode cX7_copy 97 = .ok (.iload 4, 2) := by decide +kernel
theorem dX7_copy_99 : decode cX7_copy 99 = .ok (.iload 5, 2) := by decide +kernel
theorem dX7_copy_101 : decode cX7_copy 101 = .ok (.invokevirtual 262, 3) := by decide +kernel
theorem dX7_copy_104 : decode cX7_copy 104 = .ok (.ifCond .ne 9, 3) := by decide +kernel
theorem dX7_copy_107 : decode cX7_copy 107 = .ok (.aload_n 0, 1) := by decide +kernel
theorem dX7_copy_108 : decode cX7_copy 108 = .ok (.iconst 2, 1) := by decide +kernel
theorem dX7_copy_109 : decode cX7_copy 109 = .ok (.invokevirtual 136, 3) := by decide +kernel
theorem dX7_copy_112 : decode cX7_copy 112 = .ok (.ireturn, 1) := by decide +kernel
theorem dX7_copy_113 : decode cX7_copy 113 = .ok (.aload_n 0, 1) := by decide +kernel
theorem dX7_copy_114 : decode cX7_copy 114 = .ok (.getfield 78, 3) := by decide +kernel
theorem dX7_copy_117 : decode cX7_copy 117 = .ok (.iload_n 3, 1) := by decide +kernel
theorem dX7_copy_118 : decode cX7_copy 118 = .ok (.aaload, 1) := by decide +kernel
theorem dX7_copy_119 : decode cX7_copy 119 = .ok (.aload_n 0, 1) := by decide +kernel
theorem dX7_copy_120 : decode cX7_copy 120 = .ok (.getfield 78, 3) := by decide +kernel
theorem dX7_copy_123 : decode cX7_copy 123 = .ok (.iload_n 1, 1) := by decide +kernel
theorem dX7_copy_124 : decode cX7_copy 124 = .ok (.aaload, 1) := by decide +kernel
theorem dX7_copy_125 : decode cX7_copy 125 = .ok (.iload_n 2, 1) := by decide +kernel
theorem dX7_copy_126 : decode cX7_copy 126 = .ok (.iload 4, 2) := by decide +kernel
theorem dX7_copy_128 : decode cX7_copy 128 = .ok (.iload 5, 2) := by decide +kernel
theorem dX7_copy_130 : decode cX7_copy 130 = .ok (.invokevirtual 265, 3) := by decide +kernel
theorem dX7_copy_133 : decode cX7_copy 133 = .ok (.iconst 1, 1) := by decide +kernel
theorem dX7_copy_134 : decode cX7_copy 134 = .ok (.ireturn, 1) := by decide +kernel
theorem dX7_write_0 : decode cX7_write 0 = .ok (.iload_n 1, 1) := by decide +kernel
theorem dX7_write_1 : decode cX7_write 1 = .ok (.iconst 4, 1) := by decide +kernel
theorem dX7_write_2 : decode cX7_write 2 = .ok (.invokestatic 82, 3) := by decide +kernel
theorem dX7_write_5 : decode cX7_write 5 = .ok (.ifCond .eq 6, 3) := by decide +kernel
theorem dX7_write_8 : decode cX7_write 8 = .ok (.bipush (-2), 2) := by decide +kernel
theorem dX7_write_10 : decode cX7_write 10 = .ok (.ireturn, 1) := by decide +kernel
theorem dX7_write_11 : decode cX7_write 11 = .ok (.aload_n 0, 1) := by decide +kernel
theorem dX7_write_12 : decode cX7_write 12 = .ok (.getfield 78, 3) := by decide +kernel
theorem dX7_write_15 : decode cX7_write 15 = .ok (.iload_n 1, 1) := by decide +kernel
theorem dX7_write_16 : decode cX7_write 16 = .ok (.aaload, 1) := by decide +kernel
theorem dX7_write_17 : decode cX7_write 17 = .ok (.invokevirtual 133, 3) := by decide +kernel
theorem dX7_write_20 : decode cX7_write 20 = .ok (.ifCond .eq 9, 3) := by decide +kernel
theorem dX7_write_23 : decode cX7_write 23 = .ok (.aload_n 0, 1) := by decide +kernel
theorem dX7_write_24 : decode cX7_write 24 = .ok (.iconst 1, 1) := by decide +kernel
theorem dX7_write_25 : decode cX7_write 25 = .ok (.invokevirtual 136, 3) := by decide +kernel
theorem dX7_write_28 : decode cX7_write 28 = .ok (.ireturn, 1) := by decide +kernel
theorem dX7_write_29 : decode cX7_write 29 = .ok (.aload_n 0, 1) := by decide +kernel
theorem dX7_write_30 : decode cX7_write 30 = .ok (.getfield 78, 3) := by decide +kernel
theorem dX7_write_33 : decode cX7_write 33 = .ok (.iload_n 1, 1) := by decide +kernel
theorem dX7_write_34 : decode cX7_write 34 = .ok (.aaload, 1) := by decide +kernel
theorem dX7_write_35 : decode cX7_write 35 = .ok (.invokevirtual 143, 3) := by decide +kernel
theorem dX7_write_38 : decode cX7_write 38 = .ok (.aload_n 0, 1) := by decide +kernel
theorem dX7_write_39 : decode cX7_write 39 = .ok (.invokevirtual 155, 3) := by decide +kernel
theorem dX7_write_42 : decode cX7_write 42 = .ok (.invokevirtual 159, 3) := by decide +kernel
theorem dX7_write_45 : decode cX7_write 45 = .ok (.invokestatic 269, 3) := by decide +kernel
theorem dX7_write_48 : decode cX7_write 48 = .ok (.istore_n 2, 1) := by decide +kernel
theorem dX7_write_49 : decode cX7_write 49 = .ok (.iconst 0, 1) := by decide +kernel
theorem dX7_write_50 : decode cX7_write 50 = .ok (.istore_n 3, 1) := by decide +kernel
theorem dX7_write_51 : decode cX7_write 51 = .ok (.iload_n 3, 1) := by decide +kernel
theorem dX7_write_52 : decode cX7_write 52 = .ok (.iload_n 2, 1) := by decide +kernel
theorem dX7_write_53 : decode cX7_write 53 = .ok (.if_icmp .ge 27, 3) := by decide +kernel
theorem dX7_write_56 : decode cX7_write 56 = .ok (.aload_n 0, 1) := by decide +kernel
theorem dX7_write_57 : decode cX7_write 57 = .ok (.getfield 78, 3) := by decide +kernel
theorem dX7_write_60 : decode cX7_write 60 = .ok (.iload_n 1, 1) := by decide +kernel
theorem dX7_write_61 : decode cX7_write 61 = .ok (.aaload, 1) := by decide +kernel
theorem dX7_write_62 : decode cX7_write 62 = .ok (.iload_n 3, 1) := by decide +kernel
theorem dX7_write_63 : decode cX7_write 63 = .ok (.aload_n 0, 1) := by decide +kernel
theorem dX7_write_64 : decode cX7_write 64 = .ok (.invokevirtual 155, 3) := by decide +kernel
theorem dX7_write_67 : decode cX7_write 67 = .ok (.iload_n 3, 1) := by decide +kernel
theorem dX7_write_68 : decode cX7_write 68 = .ok (.invokevirtual 160, 3) := by decide +kernel
theorem dX7_write_71 : decode cX7_write 71 = .ok (.invokevirtual 255, 3) := by decide +kernel
theorem dX7_write_74 : decode cX7_write 74 = .ok (.iinc 3 1, 3) := by decide +kernel
theorem dX7_write_77 : decode cX7_write 77 = .ok (.goto (-26), 3) := by decide +kernel
theorem dX7_write_80 : decode cX7_write 80 = .ok (.iload_n 2, 1) := by decide +kernel
theorem dX7_write_81 : decode cX7_write 81 = .ok (.ireturn, 1) := by decide +kernel
theorem dX7_count_0 : decode cX7_count 0 = .ok (.iload_n 1, 1) := by decide +kernel
theorem dX7_count_1 : decode cX7_count 1 = .ok (.tableswitch 93 0 8 #[51, 51, 51, 61, 61, 61, 73, 81, 88], 51) := by decide +kernel
theorem dX7_count_52 : decode cX7_count 52 = .ok (.aload_n 0, 1) := by decide +kernel
theorem dX7_count_53 : decode cX7_count 53 = .ok (.getfield 30, 3) := by decide +kernel
theorem dX7_count_56 : decode cX7_count 56 = .ok (.iload_n 1, 1) := by decide +kernel
theorem dX7_count_57 : decode cX7_count 57 = .ok (.aaload, 1) := by decide +kernel
theorem dX7_count_58 : decode cX7_count 58 = .ok (.invokevirtual 239, 3) := by decide +kernel
theorem dX7_count_61 : decode cX7_count 61 = .ok (.ireturn, 1) := by decide +kernel
theorem dX7_count_62 : decode cX7_count 62 = .ok (.aload_n 0, 1) := by decide +kernel
theorem dX7_count_63 : decode cX7_count 63 = .ok (.getfield 12, 3) := by decide +kernel
theorem dX7_count_66 : decode cX7_count 66 = .ok (.iload_n 1, 1) := by decide +kernel
theorem dX7_count_67 : decode cX7_count 67 = .ok (.iconst 3, 1) := by decide +kernel
theorem dX7_count_68 : decode cX7_count 68 = .ok (.isub, 1) := by decide +kernel
theorem dX7_count_69 : decode cX7_count 69 = .ok (.aaload, 1) := by decide +kernel
theorem dX7_count_70 : decode cX7_count 70 = .ok (.invokevirtual 99, 3) := by decide +kernel
theorem dX7_count_73 : decode cX7_count 73 = .ok (.ireturn, 1) := by decide +kernel
theorem dX7_count_74 : decode cX7_count 74 = .ok (.aload_n 0, 1) := by decide +kernel
theorem dX7_count_75 : decode cX7_count 75 = .ok (.getfield 64, 3) := by decide +kernel
theorem dX7_count_78 : decode cX7_count 78 = .ok (.invokevirtual 140, 3) := by decide +kernel
theorem dX7_count_81 : decode cX7_count 81 = .ok (.ireturn, 1) := by decide +kernel
theorem dX7_count_82 : decode cX7_count 82 = .ok (.aload_n 0, 1) := by decide +kernel
theorem dX7_count_83 : decode cX7_count 83 = .ok (.getfield 34, 3) := by decide +kernel
theorem dX7_count_86 : decode cX7_count 86 = .ok (.iconst 0, 1) := by decide +kernel
theorem dX7_count_87 : decode cX7_count 87 = .ok (.iaload, 1) := by decide +kernel
theorem dX7_count_88 : decode cX7_count 88 = .ok (.ireturn, 1) := by decide +kernel
theorem dX7_count_89 : decode cX7_count 89 = .ok (.aload_n 0, 1) := by decide +kernel
theorem dX7_count_90 : decode cX7_count 90 = .ok (.getfield 274, 3) := by decide +kernel
theorem dX7_count_93 : decode cX7_count 93 = .ok (.ireturn, 1) := by decide +kernel
theorem dX7_count_94 : decode cX7_count 94 = .ok (.bipush (-2), 2) := by decide +kernel
theorem dX7_count_96 : decode cX7_count 96 = .ok (.ireturn, 1) := by decide +kernel
theorem dX7_digest_0 : decode cX7_digest 0 = .ok (.ldc2_w 278, 3) := by decide +kernel
theorem dX7_digest_3 : decode cX7_digest 3 = .ok (.lstore_n 1, 1) := by decide +kernel
theorem dX7_digest_4 : decode cX7_digest 4 = .ok (.iconst 0, 1) := by decide +kernel
theorem dX7_digest_5 : decode cX7_digest 5 = .ok (.istore_n 3, 1) := by decide +kernel
theorem dX7_digest_6 : decode cX7_digest 6 = .ok (.iload_n 3, 1) := by decide +kernel
theorem dX7_digest_7 : decode cX7_digest 7 = .ok (.bipush 7, 2) := by decide +kernel
theorem dX7_digest_9 : decode cX7_digest 9 = .ok (.if_icmp .gt 19, 3) := by decide +kernel
theorem dX7_digest_12 : decode cX7_digest 12 = .ok (.lload_n 1, 1) := by decide +kernel
theorem dX7_digest_13 : decode cX7_digest 13 = .ok (.aload_n 0, 1) := by decide +kernel
theorem dX7_digest_14 : decode cX7_digest 14 = .ok (.iload_n 3, 1) := by decide +kernel
theorem dX7_digest_15 : decode cX7_digest 15 = .ok (.invokevirtual 280, 3) := by decide +kernel
theorem dX7_digest_18 : decode cX7_digest 18 = .ok (.invokestatic 283, 3) := by decide +kernel
theorem dX7_digest_21 : decode cX7_digest 21 = .ok (.lstore_n 1, 1) := by decide +kernel
theorem dX7_digest_22 : decode cX7_digest 22 = .ok (.iinc 3 1, 3) := by decide +kernel
theorem dX7_digest_25 : decode cX7_digest 25 = .ok (.goto (-19), 3) := by decide +kernel
theorem dX7_digest_28 : decode cX7_digest 28 = .ok (.iconst 0, 1) := by decide +kernel
theorem dX7_digest_29 : decode cX7_digest 29 = .ok (.istore_n 3, 1) := by decide +kernel
theorem dX7_digest_30 : decode cX7_digest 30 = .ok (.iload_n 3, 1) := by decide +kernel
theorem dX7_digest_31 : decode cX7_digest 31 = .ok (.iconst 3, 1) := by decide +kernel
theorem dX7_digest_32 : decode cX7_digest 32 = .ok (.if_icmp .ge 19, 3) := by decide +kernel
theorem dX7_digest_35 : decode cX7_digest 35 = .ok (.lload_n 1, 1) := by decide +kernel
theorem dX7_digest_36 : decode cX7_digest 36 = .ok (.aload_n 0, 1) := by decide +kernel
theorem dX7_digest_37 : decode cX7_digest 37 = .ok (.iload_n 3, 1) := by decide +kernel
theorem dX7_digest_38 : decode cX7_digest 38 = .ok (.invokevirtual 287, 3) := by decide +kernel
theorem dX7_digest_41 : decode cX7_digest 41 = .ok (.invokestatic 283, 3) := by decide +kernel
theorem dX7_digest_44 : decode cX7_digest 44 = .ok (.lstore_n 1, 1) := by decide +kernel
theorem dX7_digest_45 : decode cX7_digest 45 = .ok (.iinc 3 1, 3) := by decide +kernel
theorem dX7_digest_48 : decode cX7_digest 48 = .ok (.goto (-18), 3) := by decide +kernel
theorem dX7_digest_51 : decode cX7_digest 51 = .ok (.aload_n 0, 1) := by decide +kernel
theorem dX7_digest_52 : decode cX7_digest 52 = .ok (.lload_n 1, 1) := by decide +kernel
theorem dX7_digest_53 : decode cX7_digest 53 = .ok (.invokevirtual 290, 3) := by decide +kernel
theorem dX7_digest_56 : decode cX7_digest 56 = .ok (.lstore_n 1, 1) := by decide +kernel
theorem dX7_digest_57 : decode cX7_digest 57 = .ok (.aload_n 0, 1) := by decide +kernel
theorem dX7_digest_58 : decode cX7_digest 58 = .ok (.lload_n 1, 1) := by decide +kernel
theorem dX7_digest_59 : decode cX7_digest 59 = .ok (.invokevirtual 294, 3) := by decide +kernel
theorem dX7_digest_62 : decode cX7_digest 62 = .ok (.lstore_n 1, 1) := by decide +kernel
theorem dX7_digest_63 : decode cX7_digest 63 = .ok (.aload_n 0, 1) := by decide +kernel
theorem dX7_digest_64 : decode cX7_digest 64 = .ok (.lload_n 1, 1) := by decide +kernel
theorem dX7_digest_65 : decode cX7_digest 65 = .ok (.invokevirtual 297, 3) := by decide +kernel
theorem dX7_digest_68 : decode cX7_digest 68 = .ok (.lstore_n 1, 1) := by decide +kernel
theorem dX7_digest_69 : decode cX7_digest 69 = .ok (.aload_n 0, 1) := by decide +kernel
theorem dX7_digest_70 : decode cX7_digest 70 = .ok (.lload_n 1, 1) := by decide +kernel
theorem dX7_digest_71 : decode cX7_digest 71 = .ok (.invokevirtual 300, 3) := by decide +kernel
theorem dX7_digest_74 : decode cX7_digest 74 = .ok (.lreturn, 1) := by decide +kernel
theorem dX7_mixed_0 : decode cX7_mixed 0 = .ok (.ldc2_w 303, 3) := by decide +kernel
theorem dX7_mixed_3 : decode cX7_mixed 3 = .ok (.lload_n 0, 1) := by decide +kernel
theorem dX7_mixed_4 : decode cX7_mixed 4 = .ok (.lmul, 1) := by decide +kernel
theorem dX7_mixed_5 : decode cX7_mixed 5 = .ok (.iload_n 2, 1) := by decide +kernel
theorem dX7_mixed_6 : decode cX7_mixed 6 = .ok (.i2l, 1) := by decide +kernel
theorem dX7_mixed_7 : decode cX7_mixed 7 = .ok (.ladd, 1) := by decide +kernel
theorem dX7_mixed_8 : decode cX7_mixed 8 = .ok (.lreturn, 1) := by decide +kernel
theorem dX7_mixedWithMatters_0 : decode cX7_mixedWithMatters 0 = .ok (.lload_n 1, 1) := by decide +kernel
theorem dX7_mixedWithMatters_1 : decode cX7_mixedWithMatters 1 = .ok (.lstore_n 3, 1) := by decide +kernel
theorem dX7_mixedWithMatters_2 : decode cX7_mixedWithMatters 2 = .ok (.aload_n 0, 1) := by decide +kernel
theorem dX7_mixedWithMatters_3 : decode cX7_mixedWithMatters 3 = .ok (.getfield 30, 3) := by decide +kernel
theorem dX7_mixedWithMatters_6 : decode cX7_mixedWithMatters 6 = .ok (.iconst 0, 1) := by decide +kernel
theorem dX7_mixedWithMatters_7 : decode cX7_mixedWithMatters 7 = .ok (.aaload, 1) := by decide +kernel
theorem dX7_mixedWithMatters_8 : decode cX7_mixedWithMatters 8 = .ok (.invokevirtual 239, 3) := by decide +kernel
theorem dX7_mixedWithMatters_11 : decode cX7_mixedWithMatters 11 = .ok (.istore 5, 2) := by decide +kernel
theorem dX7_mixedWithMatters_13 : decode cX7_mixedWithMatters 13 = .ok (.iconst 0, 1) := by decide +kernel
theorem dX7_mixedWithMatters_14 : decode cX7_mixedWithMatters 14 = .ok (.istore 6, 2) := by decide +kernel
theorem dX7_mixedWithMatters_16 : decode cX7_mixedWithMatters 16 = .ok (.iload 6, 2) := by decide +kernel
theorem dX7_mixedWithMatters_18 : decode cX7_mixedWithMatters 18 = .ok (.iload 5, 2) := by decide +kernel
theorem dX7_mixedWithMatters_20 : decode cX7_mixedWithMatters 20 = .ok (.if_icmp .ge 49, 3) := by decide +kernel
theorem dX7_mixedWithMatters_23 : decode cX7_mixedWithMatters 23 = .ok (.iconst 0, 1) := by decide +kernel
theorem dX7_mixedWithMatters_24 : decode cX7_mixedWithMatters 24 = .ok (.istore 7, 2) := by decide +kernel
theorem dX7_mixedWithMatters_26 : decode cX7_mixedWithMatters 26 = .ok (.iload 7, 2) := by decide +kernel
theorem dX7_mixedWithMatters_28 : decode cX7_mixedWithMatters 28 = .ok (.bipush 6, 2) := by decide +kernel
theorem dX7_mixedWithMatters_30 : decode cX7_mixedWithMatters 30 = .ok (.if_icmp .ge 22, 3) := by decide +kernel
theorem dX7_mixedWithMatters_33 : decode cX7_mixedWithMatters 33 = .ok (.lload_n 3, 1) := by decide +kernel
theorem dX7_mixedWithMatters_34 : decode cX7_mixedWithMatters 34 = .ok (.aload_n 0, 1) := by decide +kernel
theorem dX7_mixedWithMatters_35 : decode cX7_mixedWithMatters 35 = .ok (.iload 6, 2) := by decide +kernel
theorem dX7_mixedWithMatters_37 : decode cX7_mixedWithMatters 37 = .ok (.iload 7, 2) := by decide +kernel
theorem dX7_mixedWithMatters_39 : decode cX7_mixedWithMatters 39 = .ok (.invokevirtual 305, 3) := by decide +kernel
theorem dX7_mixedWithMatters_42 : decode cX7_mixedWithMatters 42 = .ok (.invokestatic 283, 3) := by decide +kernel
theorem dX7_mixedWithMatters_45 : decode cX7_mixedWithMatters 45 = .ok (.lstore_n 3, 1) := by decide +kernel
theorem dX7_mixedWithMatters_46 : decode cX7_mixedWithMatters 46 = .ok (.iinc 7 1, 3) := by decide +kernel
theorem dX7_mixedWithMatters_49 : decode cX7_mixedWithMatters 49 = .ok (.goto (-23), 3) := by decide +kernel
theorem dX7_mixedWithMatters_52 : decode cX7_mixedWithMatters 52 = .ok (.lload_n 3, 1) := by decide +kernel
theorem dX7_mixedWithMatters_53 : decode cX7_mixedWithMatters 53 = .ok (.aload_n 0, 1) := by decide +kernel
theorem dX7_mixedWithMatters_54 : decode cX7_mixedWithMatters 54 = .ok (.iload 6, 2) := by decide +kernel
theorem dX7_mixedWithMatters_56 : decode cX7_mixedWithMatters 56 = .ok (.invokevirtual 308, 3) := by decide +kernel
theorem dX7_mixedWithMatters_59 : decode cX7_mixedWithMatters 59 = .ok (.invokestatic 283, 3) := by decide +kernel
theorem dX7_mixedWithMatters_62 : decode cX7_mixedWithMatters 62 = .ok (.lstore_n 3, 1) := by decide +kernel
theorem dX7_mixedWithMatters_63 : decode cX7_mixedWithMatters 63 = .ok (.iinc 6 1, 3) := by decide +kernel
theorem dX7_mixedWithMatters_66 : decode cX7_mixedWithMatters 66 = .ok (.goto (-50), 3) := by decide +kernel
theorem dX7_mixedWithMatters_69 : decode cX7_mixedWithMatters 69 = .ok (.lload_n 3, 1) := by decide +kernel
theorem dX7_mixedWithMatters_70 : decode cX7_mixedWithMatters 70 = .ok (.lreturn, 1) := by decide +kernel
theorem dX7_mixedWithRows_0 : decode cX7_mixedWithRows 0 = .ok (.lload_n 1, 1) := by decide +kernel
theorem dX7_mixedWithRows_1 : decode cX7_mixedWithRows 1 = .ok (.lstore_n 3, 1) := by decide +kernel
theorem dX7_mixedWithRows_2 : decode cX7_mixedWithRows 2 = .ok (.lload_n 3, 1) := by decide +kernel
theorem dX7_mixedWithRows_3 : decode cX7_mixedWithRows 3 = .ok (.aload_n 0, 1) := by decide +kernel
theorem dX7_mixedWithRows_4 : decode cX7_mixedWithRows 4 = .ok (.iconst (-1), 1) := by decide +kernel
theorem dX7_mixedWithRows_5 : decode cX7_mixedWithRows 5 = .ok (.invokevirtual 311, 3) := by decide +kernel
theorem dX7_mixedWithRows_8 : decode cX7_mixedWithRows 8 = .ok (.invokestatic 283, 3) := by decide +kernel
theorem dX7_mixedWithRows_11 : decode cX7_mixedWithRows 11 = .ok (.lstore_n 3, 1) := by decide +kernel
theorem dX7_mixedWithRows_12 : decode cX7_mixedWithRows 12 = .ok (.lload_n 3, 1) := by decide +kernel
theorem dX7_mixedWithRows_13 : decode cX7_mixedWithRows 13 = .ok (.aload_n 0, 1) := by decide +kernel
theorem dX7_mixedWithRows_14 : decode cX7_mixedWithRows 14 = .ok (.iconst 0, 1) := by decide +kernel
theorem dX7_mixedWithRows_15 : decode cX7_mixedWithRows 15 = .ok (.invokevirtual 311, 3) := by decide +kernel
theorem dX7_mixedWithRows_18 : decode cX7_mixedWithRows 18 = .ok (.invokestatic 283, 3) := by decide +kernel
theorem dX7_mixedWithRows_21 : decode cX7_mixedWithRows 21 = .ok (.lstore_n 3, 1) := by decide +kernel
theorem dX7_mixedWithRows_22 : decode cX7_mixedWithRows 22 = .ok (.lload_n 3, 1) := by decide +kernel
theorem dX7_mixedWithRows_23 : decode cX7_mixedWithRows 23 = .ok (.aload_n 0, 1) := by decide +kernel
theorem dX7_mixedWithRows_24 : decode cX7_mixedWithRows 24 = .ok (.iconst 1, 1) := by decide +kernel
theorem dX7_mixedWithRows_25 : decode cX7_mixedWithRows 25 = .ok (.invokevirtual 311, 3) := by decide +kernel
theorem dX7_mixedWithRows_28 : decode cX7_mixedWithRows 28 = .ok (.invokestatic 283, 3) := by decide +kernel
theorem dX7_mixedWithRows_31 : decode cX7_mixedWithRows 31 = .ok (.lstore_n 3, 1) := by decide +kernel
theorem dX7_mixedWithRows_32 : decode cX7_mixedWithRows 32 = .ok (.lload_n 3, 1) := by decide +kernel
theorem dX7_mixedWithRows_33 : decode cX7_mixedWithRows 33 = .ok (.aload_n 0, 1) := by decide +kernel
theorem dX7_mixedWithRows_34 : decode cX7_mixedWithRows 34 = .ok (.iconst 0, 1) := by decide +kernel
theorem dX7_mixedWithRows_35 : decode cX7_mixedWithRows 35 = .ok (.invokevirtual 313, 3) := by decide +kernel
theorem dX7_mixedWithRows_38 : decode cX7_mixedWithRows 38 = .ok (.invokestatic 283, 3) := by decide +kernel
theorem dX7_mixedWithRows_41 : decode cX7_mixedWithRows 41 = .ok (.lstore_n 3, 1) := by decide +kernel
theorem dX7_mixedWithRows_42 : decode cX7_mixedWithRows 42 = .ok (.lload_n 3, 1) := by decide +kernel
theorem dX7_mixedWithRows_43 : decode cX7_mixedWithRows 43 = .ok (.aload_n 0, 1) := by decide +kernel
theorem dX7_mixedWithRows_44 : decode cX7_mixedWithRows 44 = .ok (.iconst 1, 1) := by decide +kernel
theorem dX7_mixedWithRows_45 : decode cX7_mixedWithRows 45 = .ok (.invokevirtual 313, 3) := by decide +kernel
theorem dX7_mixedWithRows_48 : decode cX7_mixedWithRows 48 = .ok (.invokestatic 283, 3) := by decide +kernel
theorem dX7_mixedWithRows_51 : decode cX7_mixedWithRows 51 = .ok (.lstore_n 3, 1) := by decide +kernel
theorem dX7_mixedWithRows_52 : decode cX7_mixedWithRows 52 = .ok (.lload_n 3, 1) := by decide +kernel
theorem dX7_mixedWithRows_53 : decode cX7_mixedWithRows 53 = .ok (.aload_n 0, 1) := by decide +kernel
theorem dX7_mixedWithRows_54 : decode cX7_mixedWithRows 54 = .ok (.iconst 0, 1) := by decide +kernel
theorem dX7_mixedWithRows_55 : decode cX7_mixedWithRows 55 = .ok (.invokevirtual 316, 3) := by decide +kernel
theorem dX7_mixedWithRows_58 : decode cX7_mixedWithRows 58 = .ok (.invokestatic 283, 3) := by decide +kernel
theorem dX7_mixedWithRows_61 : decode cX7_mixedWithRows 61 = .ok (.lstore_n 3, 1) := by decide +kernel
theorem dX7_mixedWithRows_62 : decode cX7_mixedWithRows 62 = .ok (.lload_n 3, 1) := by decide +kernel
theorem dX7_mixedWithRows_63 : decode cX7_mixedWithRows 63 = .ok (.aload_n 0, 1) := by decide +kernel
theorem dX7_mixedWithRows_64 : decode cX7_mixedWithRows 64 = .ok (.iconst 1, 1) := by decide +kernel
theorem dX7_mixedWithRows_65 : decode cX7_mixedWithRows 65 = .ok (.invokevirtual 316, 3) := by decide +kernel
theorem dX7_mixedWithRows_68 : decode cX7_mixedWithRows 68 = .ok (.invokestatic 283, 3) := by decide +kernel
theorem dX7_mixedWithRows_71 : decode cX7_mixedWithRows 71 = .ok (.lstore_n 3, 1) := by decide +kernel
theorem dX7_mixedWithRows_72 : decode cX7_mixedWithRows 72 = .ok (.lload_n 3, 1) := by decide +kernel
theorem dX7_mixedWithRows_73 : decode cX7_mixedWithRows 73 = .ok (.aload_n 0, 1) := by decide +kernel
theorem dX7_mixedWithRows_74 : decode cX7_mixedWithRows 74 = .ok (.iconst 0, 1) := by decide +kernel
theorem dX7_mixedWithRows_75 : decode cX7_mixedWithRows 75 = .ok (.invokevirtual 319, 3) := by decide +kernel
theorem dX7_mixedWithRows_78 : decode cX7_mixedWithRows 78 = .ok (.invokestatic 283, 3) := by decide +kernel
theorem dX7_mixedWithRows_81 : decode cX7_mixedWithRows 81 = .ok (.lstore_n 3, 1) := by decide +kernel
theorem dX7_mixedWithRows_82 : decode cX7_mixedWithRows 82 = .ok (.lload_n 3, 1) := by decide +kernel
theorem dX7_mixedWithRows_83 : decode cX7_mixedWithRows 83 = .ok (.aload_n 0, 1) := by decide +kernel
theorem dX7_mixedWithRows_84 : decode cX7_mixedWithRows 84 = .ok (.iconst 1, 1) := by decide +kernel
theorem dX7_mixedWithRows_85 : decode cX7_mixedWithRows 85 = .ok (.invokevirtual 319, 3) := by decide +kernel
theorem dX7_mixedWithRows_88 : decode cX7_mixedWithRows 88 = .ok (.invokestatic 283, 3) := by decide +kernel
theorem dX7_mixedWithRows_91 : decode cX7_mixedWithRows 91 = .ok (.lstore_n 3, 1) := by decide +kernel
theorem dX7_mixedWithRows_92 : decode cX7_mixedWithRows 92 = .ok (.lload_n 3, 1) := by decide +kernel
theorem dX7_mixedWithRows_93 : decode cX7_mixedWithRows 93 = .ok (.aload_n 0, 1) := by decide +kernel
theorem dX7_mixedWithRows_94 : decode cX7_mixedWithRows 94 = .ok (.iconst 0, 1) := by decide +kernel
theorem dX7_mixedWithRows_95 : decode cX7_mixedWithRows 95 = .ok (.invokevirtual 322, 3) := by decide +kernel
theorem dX7_mixedWithRows_98 : decode cX7_mixedWithRows 98 = .ok (.invokestatic 283, 3) := by decide +kernel
theorem dX7_mixedWithRows_101 : decode cX7_mixedWithRows 101 = .ok (.lstore_n 3, 1) := by decide +kernel
theorem dX7_mixedWithRows_102 : decode cX7_mixedWithRows 102 = .ok (.lload_n 3, 1) := by decide +kernel
theorem dX7_mixedWithRows_103 : decode cX7_mixedWithRows 103 = .ok (.aload_n 0, 1) := by decide +kernel
theorem dX7_mixedWithRows_104 : decode cX7_mixedWithRows 104 = .ok (.iconst 5, 1) := by decide +kernel
theorem dX7_mixedWithRows_105 : decode cX7_mixedWithRows 105 = .ok (.invokevirtual 322, 3) := by decide +kernel
theorem dX7_mixedWithRows_108 : decode cX7_mixedWithRows 108 = .ok (.invokestatic 283, 3) := by decide +kernel
theorem dX7_mixedWithRows_111 : decode cX7_mixedWithRows 111 = .ok (.lstore_n 3, 1) := by decide +kernel
theorem dX7_mixedWithRows_112 : decode cX7_mixedWithRows 112 = .ok (.lload_n 3, 1) := by decide +kernel
theorem dX7_mixedWithRows_113 : decode cX7_mixedWithRows 113 = .ok (.aload_n 0, 1) := by decide +kernel
theorem dX7_mixedWithRows_114 : decode cX7_mixedWithRows 114 = .ok (.sipush 1023, 3) := by decide +kernel
theorem dX7_mixedWithRows_117 : decode cX7_mixedWithRows 117 = .ok (.invokevirtual 322, 3) := by decide +kernel
theorem dX7_mixedWithRows_120 : decode cX7_mixedWithRows 120 = .ok (.invokestatic 283, 3) := by decide +kernel
theorem dX7_mixedWithRows_123 : decode cX7_mixedWithRows 123 = .ok (.lstore_n 3, 1) := by decide +kernel
theorem dX7_mixedWithRows_124 : decode cX7_mixedWithRows 124 = .ok (.lload_n 3, 1) := by decide +kernel
theorem dX7_mixedWithRows_125 : decode cX7_mixedWithRows 125 = .ok (.aload_n 0, 1) := by decide +kernel
theorem dX7_mixedWithRows_126 : decode cX7_mixedWithRows 126 = .ok (.iconst 5, 1) := by decide +kernel
theorem dX7_mixedWithRows_127 : decode cX7_mixedWithRows 127 = .ok (.invokevirtual 325, 3) := by decide +kernel
theorem dX7_mixedWithRows_130 : decode cX7_mixedWithRows 130 = .ok (.invokestatic 283, 3) := by decide +kernel
theorem dX7_mixedWithRows_133 : decode cX7_mixedWithRows 133 = .ok (.lstore_n 3, 1) := by decide +kernel
theorem dX7_mixedWithRows_134 : decode cX7_mixedWithRows 134 = .ok (.lload_n 3, 1) := by decide +kernel
theorem dX7_mixedWithRows_135 : decode cX7_mixedWithRows 135 = .ok (.aload_n 0, 1) := by decide +kernel
theorem dX7_mixedWithRows_136 : decode cX7_mixedWithRows 136 = .ok (.iconst 0, 1) := by decide +kernel
theorem dX7_mixedWithRows_137 : decode cX7_mixedWithRows 137 = .ok (.iconst 3, 1) := by decide +kernel
theorem dX7_mixedWithRows_138 : decode cX7_mixedWithRows 138 = .ok (.invokevirtual 328, 3) := by decide +kernel
theorem dX7_mixedWithRows_141 : decode cX7_mixedWithRows 141 = .ok (.invokestatic 283, 3) := by decide +kernel
theorem dX7_mixedWithRows_144 : decode cX7_mixedWithRows 144 = .ok (.lstore_n 3, 1) := by decide +kernel
theorem dX7_mixedWithRows_145 : decode cX7_mixedWithRows 145 = .ok (.lload_n 3, 1) := by decide +kernel
theorem dX7_mixedWithRows_146 : decode cX7_mixedWithRows 146 = .ok (.aload_n 0, 1) := by decide +kernel
theorem dX7_mixedWithRows_147 : decode cX7_mixedWithRows 147 = .ok (.iconst 0, 1) := by decide +kernel
theorem dX7_mixedWithRows_148 : decode cX7_mixedWithRows 148 = .ok (.iconst 0, 1) := by decide +kernel
theorem dX7_mixedWithRows_149 : decode cX7_mixedWithRows 149 = .ok (.invokevirtual 331, 3) := by decide +kernel
theorem dX7_mixedWithRows_152 : decode cX7_mixedWithRows 152 = .ok (.invokestatic 283, 3) := by decide +kernel
theorem dX7_mixedWithRows_155 : decode cX7_mixedWithRows 155 = .ok (.lstore_n 3, 1) := by decide +kernel
theorem dX7_mixedWithRows_156 : decode cX7_mixedWithRows 156 = .ok (.lload_n 3, 1) := by decide +kernel
theorem dX7_mixedWithRows_157 : decode cX7_mixedWithRows 157 = .ok (.aload_n 0, 1) := by decide +kernel
theorem dX7_mixedWithRows_158 : decode cX7_mixedWithRows 158 = .ok (.iconst 0, 1) := by decide +kernel
theorem dX7_mixedWithRows_159 : decode cX7_mixedWithRows 159 = .ok (.iconst 1, 1) := by decide +kernel
theorem dX7_mixedWithRows_160 : decode cX7_mixedWithRows 160 = .ok (.invokevirtual 331, 3) := by decide +kernel
theorem dX7_mixedWithRows_163 : decode cX7_mixedWithRows 163 = .ok (.invokestatic 283, 3) := by decide +kernel
theorem dX7_mixedWithRows_166 : decode cX7_mixedWithRows 166 = .ok (.lstore_n 3, 1) := by decide +kernel
theorem dX7_mixedWithRows_167 : decode cX7_mixedWithRows 167 = .ok (.lload_n 3, 1) := by decide +kernel
theorem dX7_mixedWithRows_168 : decode cX7_mixedWithRows 168 = .ok (.aload_n 0, 1) := by decide +kernel
theorem dX7_mixedWithRows_169 : decode cX7_mixedWithRows 169 = .ok (.invokevirtual 334, 3) := by decide +kernel
theorem dX7_mixedWithRows_172 : decode cX7_mixedWithRows 172 = .ok (.invokestatic 283, 3) := by decide +kernel
theorem dX7_mixedWithRows_175 : decode cX7_mixedWithRows 175 = .ok (.lreturn, 1) := by decide +kernel
theorem dX7_mixedWithPersons_0 : decode cX7_mixedWithPersons 0 = .ok (.lload_n 1, 1) := by decide +kernel
theorem dX7_mixedWithPersons_1 : decode cX7_mixedWithPersons 1 = .ok (.lstore_n 3, 1) := by decide +kernel
theorem dX7_mixedWithPersons_2 : decode cX7_mixedWithPersons 2 = .ok (.iconst 0, 1) := by decide +kernel
theorem dX7_mixedWithPersons_3 : decode cX7_mixedWithPersons 3 = .ok (.istore 5, 2) := by decide +kernel
theorem dX7_mixedWithPersons_5 : decode cX7_mixedWithPersons 5 = .ok (.iload 5, 2) := by decide +kernel
theorem dX7_mixedWithPersons_7 : decode cX7_mixedWithPersons 7 = .ok (.bipush 6, 2) := by decide +kernel
theorem dX7_mixedWithPersons_9 : decode cX7_mixedWithPersons 9 = .ok (.if_icmp .ge 87, 3) := by decide +kernel
theorem dX7_mixedWithPersons_12 : decode cX7_mixedWithPersons 12 = .ok (.lload_n 3, 1) := by decide +kernel
theorem dX7_mixedWithPersons_13 : decode cX7_mixedWithPersons 13 = .ok (.aload_n 0, 1) := by decide +kernel
theorem dX7_mixedWithPersons_14 : decode cX7_mixedWithPersons 14 = .ok (.sipush 1023, 3) := by decide +kernel
theorem dX7_mixedWithPersons_17 : decode cX7_mixedWithPersons 17 = .ok (.iload 5, 2) := by decide +kernel
theorem dX7_mixedWithPersons_19 : decode cX7_mixedWithPersons 19 = .ok (.bipush 20, 2) := by decide +kernel
theorem dX7_mixedWithPersons_21 : decode cX7_mixedWithPersons 21 = .ok (.invokevirtual 337, 3) := by decide +kernel
theorem dX7_mixedWithPersons_24 : decode cX7_mixedWithPersons 24 = .ok (.invokestatic 283, 3) := by decide +kernel
theorem dX7_mixedWithPersons_27 : decode cX7_mixedWithPersons 27 = .ok (.lstore_n 3, 1) := by decide +kernel
theorem dX7_mixedWithPersons_28 : decode cX7_mixedWithPersons 28 = .ok (.lload_n 3, 1) := by decide +kernel
theorem dX7_mixedWithPersons_29 : decode cX7_mixedWithPersons 29 = .ok (.aload_n 0, 1) := by decide +kernel
theorem dX7_mixedWithPersons_30 : decode cX7_mixedWithPersons 30 = .ok (.sipush 1023, 3) := by decide +kernel
theorem dX7_mixedWithPersons_33 : decode cX7_mixedWithPersons 33 = .ok (.iload 5, 2) := by decide +kernel
theorem dX7_mixedWithPersons_35 : decode cX7_mixedWithPersons 35 = .ok (.bipush 20, 2) := by decide +kernel
theorem dX7_mixedWithPersons_37 : decode cX7_mixedWithPersons 37 = .ok (.invokevirtual 341, 3) := by decide +kernel
theorem dX7_mixedWithPersons_40 : decode cX7_mixedWithPersons 40 = .ok (.invokestatic 283, 3) := by decide +kernel
theorem dX7_mixedWithPersons_43 : decode cX7_mixedWithPersons 43 = .ok (.lstore_n 3, 1) := by decide +kernel
theorem dX7_mixedWithPersons_44 : decode cX7_mixedWithPersons 44 = .ok (.lload_n 3, 1) := by decide +kernel
theorem dX7_mixedWithPersons_45 : decode cX7_mixedWithPersons 45 = .ok (.aload_n 0, 1) := by decide +kernel
theorem dX7_mixedWithPersons_46 : decode cX7_mixedWithPersons 46 = .ok (.iload 5, 2) := by decide +kernel
theorem dX7_mixedWithPersons_48 : decode cX7_mixedWithPersons 48 = .ok (.iconst 0, 1) := by decide +kernel
theorem dX7_mixedWithPersons_49 : decode cX7_mixedWithPersons 49 = .ok (.invokevirtual 344, 3) := by decide +kernel
theorem dX7_mixedWithPersons_52 : decode cX7_mixedWithPersons 52 = .ok (.invokestatic 283, 3) := by decide +kernel
theorem dX7_mixedWithPersons_55 : decode cX7_mixedWithPersons 55 = .ok (.lstore_n 3, 1) := by decide +kernel
theorem dX7_mixedWithPersons_56 : decode cX7_mixedWithPersons 56 = .ok (.lload_n 3, 1) := by decide +kernel
theorem dX7_mixedWithPersons_57 : decode cX7_mixedWithPersons 57 = .ok (.aload_n 0, 1) := by decide +kernel
theorem dX7_mixedWithPersons_58 : decode cX7_mixedWithPersons 58 = .ok (.iload 5, 2) := by decide +kernel
theorem dX7_mixedWithPersons_60 : decode cX7_mixedWithPersons 60 = .ok (.iconst 1, 1) := by decide +kernel
theorem dX7_mixedWithPersons_61 : decode cX7_mixedWithPersons 61 = .ok (.invokevirtual 344, 3) := by decide +kernel
theorem dX7_mixedWithPersons_64 : decode cX7_mixedWithPersons 64 = .ok (.invokestatic 283, 3) := by decide +kernel
theorem dX7_mixedWithPersons_67 : decode cX7_mixedWithPersons 67 = .ok (.lstore_n 3, 1) := by decide +kernel
theorem dX7_mixedWithPersons_68 : decode cX7_mixedWithPersons 68 = .ok (.lload_n 3, 1) := by decide +kernel
theorem dX7_mixedWithPersons_69 : decode cX7_mixedWithPersons 69 = .ok (.aload_n 0, 1) := by decide +kernel
theorem dX7_mixedWithPersons_70 : decode cX7_mixedWithPersons 70 = .ok (.iload 5, 2) := by decide +kernel
theorem dX7_mixedWithPersons_72 : decode cX7_mixedWithPersons 72 = .ok (.invokevirtual 347, 3) := by decide +kernel
theorem dX7_mixedWithPersons_75 : decode cX7_mixedWithPersons 75 = .ok (.invokestatic 283, 3) := by decide +kernel
theorem dX7_mixedWithPersons_78 : decode cX7_mixedWithPersons 78 = .ok (.lstore_n 3, 1) := by decide +kernel
theorem dX7_mixedWithPersons_79 : decode cX7_mixedWithPersons 79 = .ok (.lload_n 3, 1) := by decide +kernel
theorem dX7_mixedWithPersons_80 : decode cX7_mixedWithPersons 80 = .ok (.aload_n 0, 1) := by decide +kernel
theorem dX7_mixedWithPersons_81 : decode cX7_mixedWithPersons 81 = .ok (.iload 5, 2) := by decide +kernel
theorem dX7_mixedWithPersons_83 : decode cX7_mixedWithPersons 83 = .ok (.invokevirtual 350, 3) := by decide +kernel
theorem dX7_mixedWithPersons_86 : decode cX7_mixedWithPersons 86 = .ok (.invokestatic 283, 3) := by decide +kernel
theorem dX7_mixedWithPersons_89 : decode cX7_mixedWithPersons 89 = .ok (.lstore_n 3, 1) := by decide +kernel
theorem dX7_mixedWithPersons_90 : decode cX7_mixedWithPersons 90 = .ok (.iinc 5 1, 3) := by decide +kernel
theorem dX7_mixedWithPersons_93 : decode cX7_mixedWithPersons 93 = .ok (.goto (-88), 3) := by decide +kernel
theorem dX7_mixedWithPersons_96 : decode cX7_mixedWithPersons 96 = .ok (.lload_n 3, 1) := by decide +kernel
theorem dX7_mixedWithPersons_97 : decode cX7_mixedWithPersons 97 = .ok (.lreturn, 1) := by decide +kernel
theorem dX7_mixedWithAll_0 : decode cX7_mixedWithAll 0 = .ok (.lload_n 1, 1) := by decide +kernel
theorem dX7_mixedWithAll_1 : decode cX7_mixedWithAll 1 = .ok (.lstore_n 3, 1) := by decide +kernel
theorem dX7_mixedWithAll_2 : decode cX7_mixedWithAll 2 = .ok (.lload_n 3, 1) := by decide +kernel
theorem dX7_mixedWithAll_3 : decode cX7_mixedWithAll 3 = .ok (.aload_n 0, 1) := by decide +kernel
theorem dX7_mixedWithAll_4 : decode cX7_mixedWithAll 4 = .ok (.sipush 1023, 3) := by decide +kernel
theorem dX7_mixedWithAll_7 : decode cX7_mixedWithAll 7 = .ok (.bipush 20, 2) := by decide +kernel
theorem dX7_mixedWithAll_9 : decode cX7_mixedWithAll 9 = .ok (.invokevirtual 353, 3) := by decide +kernel
theorem dX7_mixedWithAll_12 : decode cX7_mixedWithAll 12 = .ok (.invokestatic 283, 3) := by decide +kernel
theorem dX7_mixedWithAll_15 : decode cX7_mixedWithAll 15 = .ok (.lstore_n 3, 1) := by decide +kernel
theorem dX7_mixedWithAll_16 : decode cX7_mixedWithAll 16 = .ok (.lload_n 3, 1) := by decide +kernel
theorem dX7_mixedWithAll_17 : decode cX7_mixedWithAll 17 = .ok (.aload_n 0, 1) := by decide +kernel
theorem dX7_mixedWithAll_18 : decode cX7_mixedWithAll 18 = .ok (.iconst 0, 1) := by decide +kernel
theorem dX7_mixedWithAll_19 : decode cX7_mixedWithAll 19 = .ok (.aload_n 0, 1) := by decide +kernel
theorem dX7_mixedWithAll_20 : decode cX7_mixedWithAll 20 = .ok (.iconst 0, 1) := by decide +kernel
theorem dX7_mixedWithAll_21 : decode cX7_mixedWithAll 21 = .ok (.invokevirtual 311, 3) := by decide +kernel
theorem dX7_mixedWithAll_24 : decode cX7_mixedWithAll 24 = .ok (.invokestatic 356, 3) := by decide +kernel
theorem dX7_mixedWithAll_27 : decode cX7_mixedWithAll 27 = .ok (.iconst 0, 1) := by decide +kernel
theorem dX7_mixedWithAll_28 : decode cX7_mixedWithAll 28 = .ok (.invokevirtual 359, 3) := by decide +kernel
theorem dX7_mixedWithAll_31 : decode cX7_mixedWithAll 31 = .ok (.invokestatic 283, 3) := by decide +kernel
theorem dX7_mixedWithAll_34 : decode cX7_mixedWithAll 34 = .ok (.lstore_n 3, 1) := by decide +kernel
theorem dX7_mixedWithAll_35 : decode cX7_mixedWithAll 35 = .ok (.lload_n 3, 1) := by decide +kernel
theorem dX7_mixedWithAll_36 : decode cX7_mixedWithAll 36 = .ok (.aload_n 0, 1) := by decide +kernel
theorem dX7_mixedWithAll_37 : decode cX7_mixedWithAll 37 = .ok (.iconst (-1), 1) := by decide +kernel
theorem dX7_mixedWithAll_38 : decode cX7_mixedWithAll 38 = .ok (.invokevirtual 347, 3) := by decide +kernel
theorem dX7_mixedWithAll_41 : decode cX7_mixedWithAll 41 = .ok (.invokestatic 283, 3) := by decide +kernel
theorem dX7_mixedWithAll_44 : decode cX7_mixedWithAll 44 = .ok (.lstore_n 3, 1) := by decide +kernel
theorem dX7_mixedWithAll_45 : decode cX7_mixedWithAll 45 = .ok (.lload_n 3, 1) := by decide +kernel
theorem dX7_mixedWithAll_46 : decode cX7_mixedWithAll 46 = .ok (.aload_n 0, 1) := by decide +kernel
theorem dX7_mixedWithAll_47 : decode cX7_mixedWithAll 47 = .ok (.invokevirtual 362, 3) := by decide +kernel
theorem dX7_mixedWithAll_50 : decode cX7_mixedWithAll 50 = .ok (.invokestatic 283, 3) := by decide +kernel
theorem dX7_mixedWithAll_53 : decode cX7_mixedWithAll 53 = .ok (.lstore_n 3, 1) := by decide +kernel
theorem dX7_mixedWithAll_54 : decode cX7_mixedWithAll 54 = .ok (.lload_n 3, 1) := by decide +kernel
theorem dX7_mixedWithAll_55 : decode cX7_mixedWithAll 55 = .ok (.aload_n 0, 1) := by decide +kernel
theorem dX7_mixedWithAll_56 : decode cX7_mixedWithAll 56 = .ok (.invokevirtual 365, 3) := by decide +kernel
theorem dX7_mixedWithAll_59 : decode cX7_mixedWithAll 59 = .ok (.invokestatic 283, 3) := by decide +kernel
theorem dX7_mixedWithAll_62 : decode cX7_mixedWithAll 62 = .ok (.lstore_n 3, 1) := by decide +kernel
theorem dX7_mixedWithAll_63 : decode cX7_mixedWithAll 63 = .ok (.lload_n 3, 1) := by decide +kernel
theorem dX7_mixedWithAll_64 : decode cX7_mixedWithAll 64 = .ok (.aload_n 0, 1) := by decide +kernel
theorem dX7_mixedWithAll_65 : decode cX7_mixedWithAll 65 = .ok (.iconst 0, 1) := by decide +kernel
theorem dX7_mixedWithAll_66 : decode cX7_mixedWithAll 66 = .ok (.invokevirtual 368, 3) := by decide +kernel
theorem dX7_mixedWithAll_69 : decode cX7_mixedWithAll 69 = .ok (.invokestatic 283, 3) := by decide +kernel
theorem dX7_mixedWithAll_72 : decode cX7_mixedWithAll 72 = .ok (.lstore_n 3, 1) := by decide +kernel
theorem dX7_mixedWithAll_73 : decode cX7_mixedWithAll 73 = .ok (.lload_n 3, 1) := by decide +kernel
theorem dX7_mixedWithAll_74 : decode cX7_mixedWithAll 74 = .ok (.aload_n 0, 1) := by decide +kernel
theorem dX7_mixedWithAll_75 : decode cX7_mixedWithAll 75 = .ok (.iconst 1, 1) := by decide +kernel
theorem dX7_mixedWithAll_76 : decode cX7_mixedWithAll 76 = .ok (.invokevirtual 368, 3) := by decide +kernel
theorem dX7_mixedWithAll_79 : decode cX7_mixedWithAll 79 = .ok (.invokestatic 283, 3) := by decide +kernel
theorem dX7_mixedWithAll_82 : decode cX7_mixedWithAll 82 = .ok (.lstore_n 3, 1) := by decide +kernel
theorem dX7_mixedWithAll_83 : decode cX7_mixedWithAll 83 = .ok (.lload_n 3, 1) := by decide +kernel
theorem dX7_mixedWithAll_84 : decode cX7_mixedWithAll 84 = .ok (.aload_n 0, 1) := by decide +kernel
theorem dX7_mixedWithAll_85 : decode cX7_mixedWithAll 85 = .ok (.bipush 7, 2) := by decide +kernel
theorem dX7_mixedWithAll_87 : decode cX7_mixedWithAll 87 = .ok (.iconst 0, 1) := by decide +kernel
theorem dX7_mixedWithAll_88 : decode cX7_mixedWithAll 88 = .ok (.invokevirtual 371, 3) := by decide +kernel
theorem dX7_mixedWithAll_91 : decode cX7_mixedWithAll 91 = .ok (.invokestatic 283, 3) := by decide +kernel
theorem dX7_mixedWithAll_94 : decode cX7_mixedWithAll 94 = .ok (.lstore_n 3, 1) := by decide +kernel
theorem dX7_mixedWithAll_95 : decode cX7_mixedWithAll 95 = .ok (.lload_n 3, 1) := by decide +kernel
theorem dX7_mixedWithAll_96 : decode cX7_mixedWithAll 96 = .ok (.aload_n 0, 1) := by decide +kernel
theorem dX7_mixedWithAll_97 : decode cX7_mixedWithAll 97 = .ok (.bipush 7, 2) := by decide +kernel
theorem dX7_mixedWithAll_99 : decode cX7_mixedWithAll 99 = .ok (.bipush 20, 2) := by decide +kernel
theorem dX7_mixedWithAll_101 : decode cX7_mixedWithAll 101 = .ok (.invokevirtual 371, 3) := by decide +kernel
theorem dX7_mixedWithAll_104 : decode cX7_mixedWithAll 104 = .ok (.invokestatic 283, 3) := by decide +kernel
theorem dX7_mixedWithAll_107 : decode cX7_mixedWithAll 107 = .ok (.lreturn, 1) := by decide +kernel
theorem dX7_isOutside_0 : decode cX7_isOutside 0 = .ok (.iload_n 0, 1) := by decide +kernel
theorem dX7_isOutside_1 : decode cX7_isOutside 1 = .ok (.ifCond .lt 8, 3) := by decide +kernel
theorem dX7_isOutside_4 : decode cX7_isOutside 4 = .ok (.iload_n 0, 1) := by decide +kernel
theorem dX7_isOutside_5 : decode cX7_isOutside 5 = .ok (.iload_n 1, 1) := by decide +kernel
theorem dX7_isOutside_6 : decode cX7_isOutside 6 = .ok (.if_icmp .lt 7, 3) := by decide +kernel
theorem dX7_isOutside_9 : decode cX7_isOutside 9 = .ok (.iconst 1, 1) := by decide +kernel
theorem dX7_isOutside_10 : decode cX7_isOutside 10 = .ok (.goto 4, 3) := by decide +kernel
theorem dX7_isOutside_13 : decode cX7_isOutside 13 = .ok (.iconst 0, 1) := by decide +kernel
theorem dX7_isOutside_14 : decode cX7_isOutside 14 = .ok (.ireturn, 1) := by decide +kernel
theorem dX7_isNoRow_0 : decode cX7_isNoRow 0 = .ok (.iload_n 0, 1) := by decide +kernel
theorem dX7_isNoRow_1 : decode cX7_isNoRow 1 = .ok (.sipush 1024, 3) := by decide +kernel
theorem dX7_isNoRow_4 : decode cX7_isNoRow 4 = .ok (.invokestatic 82, 3) := by decide +kernel
theorem dX7_isNoRow_7 : decode cX7_isNoRow 7 = .ok (.ireturn, 1) := by decide +kernel
theorem dX7_isNoDay_0 : decode cX7_isNoDay 0 = .ok (.iload_n 0, 1) := by decide +kernel
theorem dX7_isNoDay_1 : decode cX7_isNoDay 1 = .ok (.ifCond .lt 9, 3) := by decide +kernel
theorem dX7_isNoDay_4 : decode cX7_isNoDay 4 = .ok (.iload_n 0, 1) := by decide +kernel
theorem dX7_isNoDay_5 : decode cX7_isNoDay 5 = .ok (.bipush 99, 2) := by decide +kernel
theorem dX7_isNoDay_7 : decode cX7_isNoDay 7 = .ok (.if_icmp .le 7, 3) := by decide +kernel
theorem dX7_isNoDay_10 : decode cX7_isNoDay 10 = .ok (.iconst 1, 1) := by decide +kernel
theorem dX7_isNoDay_11 : decode cX7_isNoDay 11 = .ok (.goto 4, 3) := by decide +kernel
theorem dX7_isNoDay_14 : decode cX7_isNoDay 14 = .ok (.iconst 0, 1) := by decide +kernel
theorem dX7_isNoDay_15 : decode cX7_isNoDay 15 = .ok (.ireturn, 1) := by decide +kernel
theorem dX7_isNotSeeable_0 : decode cX7_isNotSeeable 0 = .ok (.iload_n 0, 1) := by decide +kernel
theorem dX7_isNotSeeable_1 : decode cX7_isNotSeeable 1 = .ok (.bipush 10, 2) := by decide +kernel
theorem dX7_isNotSeeable_3 : decode cX7_isNotSeeable 3 = .ok (.invokestatic 82, 3) := by decide +kernel
theorem dX7_isNotSeeable_6 : decode cX7_isNotSeeable 6 = .ok (.ifCond .ne 11, 3) := by decide +kernel
theorem dX7_isNotSeeable_9 : decode cX7_isNotSeeable 9 = .ok (.iload_n 1, 1) := by decide +kernel
theorem dX7_isNotSeeable_10 : decode cX7_isNotSeeable 10 = .ok (.iconst 2, 1) := by decide +kernel
theorem dX7_isNotSeeable_11 : decode cX7_isNotSeeable 11 = .ok (.invokestatic 82, 3) := by decide +kernel
theorem dX7_isNotSeeable_14 : decode cX7_isNotSeeable 14 = .ok (.ifCond .eq 7, 3) := by decide +kernel
theorem dX7_isNotSeeable_17 : decode cX7_isNotSeeable 17 = .ok (.iconst 1, 1) := by decide +kernel
theorem dX7_isNotSeeable_18 : decode cX7_isNotSeeable 18 = .ok (.goto 4, 3) := by decide +kernel
theorem dX7_isNotSeeable_21 : decode cX7_isNotSeeable 21 = .ok (.iconst 0, 1) := by decide +kernel
theorem dX7_isNotSeeable_22 : decode cX7_isNotSeeable 22 = .ok (.ireturn, 1) := by decide +kernel
theorem dX7_isNoMatter_0 : decode cX7_isNoMatter 0 = .ok (.iload_n 1, 1) := by decide +kernel
theorem dX7_isNoMatter_1 : decode cX7_isNoMatter 1 = .ok (.aload_n 0, 1) := by decide +kernel
theorem dX7_isNoMatter_2 : decode cX7_isNoMatter 2 = .ok (.getfield 30, 3) := by decide +kernel
theorem dX7_isNoMatter_5 : decode cX7_isNoMatter 5 = .ok (.iconst 0, 1) := by decide +kernel
theorem dX7_isNoMatter_6 : decode cX7_isNoMatter 6 = .ok (.aaload, 1) := by decide +kernel
theorem dX7_isNoMatter_7 : decode cX7_isNoMatter 7 = .ok (.invokevirtual 239, 3) := by decide +kernel
theorem dX7_isNoMatter_10 : decode cX7_isNoMatter 10 = .ok (.invokestatic 82, 3) := by decide +kernel
theorem dX7_isNoMatter_13 : decode cX7_isNoMatter 13 = .ok (.ireturn, 1) := by decide +kernel
theorem dX7_finding_0 : decode cX7_finding 0 = .ok (.aload_n 0, 1) := by decide +kernel
theorem dX7_finding_1 : decode cX7_finding 1 = .ok (.iload_n 1, 1) := by decide +kernel
theorem dX7_finding_2 : decode cX7_finding 2 = .ok (.putfield 274, 3) := by decide +kernel
theorem dX7_finding_5 : decode cX7_finding 5 = .ok (.bipush (-10), 2) := by decide +kernel
theorem dX7_finding_7 : decode cX7_finding 7 = .ok (.iload_n 1, 1) := by decide +kernel
theorem dX7_finding_8 : decode cX7_finding 8 = .ok (.isub, 1) := by decide +kernel
theorem dX7_finding_9 : decode cX7_finding 9 = .ok (.ireturn, 1) := by decide +kernel
theorem dX7_itemRefusal_0 : decode cX7_itemRefusal 0 = .ok (.iload_n 2, 1) := by decide +kernel
theorem dX7_itemRefusal_1 : decode cX7_itemRefusal 1 = .ok (.iconst 3, 1) := by decide +kernel
theorem dX7_itemRefusal_2 : decode cX7_itemRefusal 2 = .ok (.invokestatic 82, 3) := by decide +kernel
theorem dX7_itemRefusal_5 : decode cX7_itemRefusal 5 = .ok (.ifCond .eq 6, 3) := by decide +kernel
theorem dX7_itemRefusal_8 : decode cX7_itemRefusal 8 = .ok (.bipush (-2), 2) := by decide +kernel
theorem dX7_itemRefusal_10 : decode cX7_itemRefusal 10 = .ok (.ireturn, 1) := by decide +kernel
theorem dX7_itemRefusal_11 : decode cX7_itemRefusal 11 = .ok (.aload_n 1, 1) := by decide +kernel
theorem dX7_itemRefusal_12 : decode cX7_itemRefusal 12 = .ok (.invokevirtual 133, 3) := by decide +kernel
theorem dX7_itemRefusal_15 : decode cX7_itemRefusal 15 = .ok (.ifCond .eq 9, 3) := by decide +kernel
theorem dX7_itemRefusal_18 : decode cX7_itemRefusal 18 = .ok (.aload_n 0, 1) := by decide +kernel
theorem dX7_itemRefusal_19 : decode cX7_itemRefusal 19 = .ok (.iconst 1, 1) := by decide +kernel
theorem dX7_itemRefusal_20 : decode cX7_itemRefusal 20 = .ok (.invokevirtual 136, 3) := by decide +kernel
theorem dX7_itemRefusal_23 : decode cX7_itemRefusal 23 = .ok (.ireturn, 1) := by decide +kernel
theorem dX7_itemRefusal_24 : decode cX7_itemRefusal 24 = .ok (.aload_n 1, 1) := by decide +kernel
theorem dX7_itemRefusal_25 : decode cX7_itemRefusal 25 = .ok (.invokevirtual 259, 3) := by decide +kernel
theorem dX7_itemRefusal_28 : decode cX7_itemRefusal 28 = .ok (.iload_n 2, 1) := by decide +kernel
theorem dX7_itemRefusal_29 : decode cX7_itemRefusal 29 = .ok (.if_icmp .eq 9, 3) := by decide +kernel
theorem dX7_itemRefusal_32 : decode cX7_itemRefusal 32 = .ok (.aload_n 0, 1) := by decide +kernel
theorem dX7_itemRefusal_33 : decode cX7_itemRefusal 33 = .ok (.iconst 3, 1) := by decide +kernel
theorem dX7_itemRefusal_34 : decode cX7_itemRefusal 34 = .ok (.invokevirtual 136, 3) := by decide +kernel
theorem dX7_itemRefusal_37 : decode cX7_itemRefusal 37 = .ok (.ireturn, 1) := by decide +kernel
theorem dX7_itemRefusal_38 : decode cX7_itemRefusal 38 = .ok (.iload_n 3, 1) := by decide +kernel
theorem dX7_itemRefusal_39 : decode cX7_itemRefusal 39 = .ok (.aload_n 1, 1) := by decide +kernel
theorem dX7_itemRefusal_40 : decode cX7_itemRefusal 40 = .ok (.invokevirtual 143, 3) := by decide +kernel
theorem dX7_itemRefusal_43 : decode cX7_itemRefusal 43 = .ok (.invokestatic 82, 3) := by decide +kernel
theorem dX7_itemRefusal_46 : decode cX7_itemRefusal 46 = .ok (.ifCond .eq 11, 3) := by decide +kernel
theorem dX7_itemRefusal_49 : decode cX7_itemRefusal 49 = .ok (.aload_n 0, 1) := by decide +kernel
theorem dX7_itemRefusal_50 : decode cX7_itemRefusal 50 = .ok (.iconst 2, 1) := by decide +kernel
theorem dX7_itemRefusal_51 : decode cX7_itemRefusal 51 = .ok (.invokevirtual 136, 3) := by decide +kernel
theorem dX7_itemRefusal_54 : decode cX7_itemRefusal 54 = .ok (.goto 4, 3) := by decide +kernel
theorem dX7_itemRefusal_57 : decode cX7_itemRefusal 57 = .ok (.iconst 0, 1) := by decide +kernel
theorem dX7_itemRefusal_58 : decode cX7_itemRefusal 58 = .ok (.ireturn, 1) := by decide +kernel
theorem dX7_markOld_0 : decode cX7_markOld 0 = .ok (.aload_n 0, 1) := by decide +kernel
theorem dX7_markOld_1 : decode cX7_markOld 1 = .ok (.iconst 1, 1) := by decide +kernel
theorem dX7_markOld_2 : decode cX7_markOld 2 = .ok (.putfield 47, 3) := by decide +kernel
theorem dX7_markOld_5 : decode cX7_markOld 5 = .ok (.aload_n 0, 1) := by decide +kernel
theorem dX7_markOld_6 : decode cX7_markOld 6 = .ok (.iconst 1, 1) := by decide +kernel
theorem dX7_markOld_7 : decode cX7_markOld 7 = .ok (.putfield 58, 3) := by decide +kernel
theorem dX7_markOld_10 : decode cX7_markOld 10 = .ok (.return_, 1) := by decide +kernel
theorem dX7_rowsNow_0 : decode cX7_rowsNow 0 = .ok (.aload_n 0, 1) := by decide +kernel
theorem dX7_rowsNow_1 : decode cX7_rowsNow 1 = .ok (.getfield 47, 3) := by decide +kernel
theorem dX7_rowsNow_4 : decode cX7_rowsNow 4 = .ok (.ifCond .eq 33, 3) := by decide +kernel
theorem dX7_rowsNow_7 : decode cX7_rowsNow 7 = .ok (.aload_n 0, 1) := by decide +kernel
theorem dX7_rowsNow_8 : decode cX7_rowsNow 8 = .ok (.getfield 43, 3) := by decide +kernel
theorem dX7_rowsNow_11 : decode cX7_rowsNow 11 = .ok (.aload_n 0, 1) := by decide +kernel
theorem dX7_rowsNow_12 : decode cX7_rowsNow 12 = .ok (.getfield 30, 3) := by decide +kernel
theorem dX7_rowsNow_15 : decode cX7_rowsNow 15 = .ok (.iconst 0, 1) := by decide +kernel
theorem dX7_rowsNow_16 : decode cX7_rowsNow 16 = .ok (.aaload, 1) := by decide +kernel
theorem dX7_rowsNow_17 : decode cX7_rowsNow 17 = .ok (.aload_n 0, 1) := by decide +kernel
theorem dX7_rowsNow_18 : decode cX7_rowsNow 18 = .ok (.getfield 34, 3) := by decide +kernel
theorem dX7_rowsNow_21 : decode cX7_rowsNow 21 = .ok (.iconst 0, 1) := by decide +kernel
theorem dX7_rowsNow_22 : decode cX7_rowsNow 22 = .ok (.iaload, 1) := by decide +kernel
theorem dX7_rowsNow_23 : decode cX7_rowsNow 23 = .ok (.aload_n 0, 1) := by decide +kernel
theorem dX7_rowsNow_24 : decode cX7_rowsNow 24 = .ok (.getfield 34, 3) := by decide +kernel
theorem dX7_rowsNow_27 : decode cX7_rowsNow 27 = .ok (.iconst 3, 1) := by decide +kernel
theorem dX7_rowsNow_28 : decode cX7_rowsNow 28 = .ok (.iaload, 1) := by decide +kernel
theorem dX7_rowsNow_29 : decode cX7_rowsNow 29 = .ok (.invokevirtual 374, 3) := by decide +kernel
theorem dX7_rowsNow_32 : decode cX7_rowsNow 32 = .ok (.aload_n 0, 1) := by decide +kernel
theorem dX7_rowsNow_33 : decode cX7_rowsNow 33 = .ok (.iconst 0, 1) := by decide +kernel
theorem dX7_rowsNow_34 : decode cX7_rowsNow 34 = .ok (.putfield 47, 3) := by decide +kernel
theorem dX7_rowsNow_37 : decode cX7_rowsNow 37 = .ok (.aload_n 0, 1) := by decide +kernel
theorem dX7_rowsNow_38 : decode cX7_rowsNow 38 = .ok (.getfield 43, 3) := by decide +kernel
theorem dX7_rowsNow_41 : decode cX7_rowsNow 41 = .ok (.areturn, 1) := by decide +kernel
theorem dX7_accountsNow_0 : decode cX7_accountsNow 0 = .ok (.aload_n 0, 1) := by decide +kernel
theorem dX7_accountsNow_1 : decode cX7_accountsNow 1 = .ok (.getfield 58, 3) := by decide +kernel
theorem dX7_accountsNow_4 : decode cX7_accountsNow 4 = .ok (.ifCond .eq 39, 3) := by decide +kernel
theorem dX7_accountsNow_7 : decode cX7_accountsNow 7 = .ok (.aload_n 0, 1) := by decide +kernel
theorem dX7_accountsNow_8 : decode cX7_accountsNow 8 = .ok (.getfield 54, 3) := by decide +kernel
theorem dX7_accountsNow_11 : decode cX7_accountsNow 11 = .ok (.aload_n 0, 1) := by decide +kernel
theorem dX7_accountsNow_12 : decode cX7_accountsNow 12 = .ok (.getfield 30, 3) := by decide +kernel
theorem dX7_accountsNow_15 : decode cX7_accountsNow 15 = .ok (.iconst 1, 1) := by decide +kernel
theorem dX7_accountsNow_16 : decode cX7_accountsNow 16 = .ok (.aaload, 1) := by decide +kernel
theorem dX7_accountsNow_17 : decode cX7_accountsNow 17 = .ok (.aload_n 0, 1) := by decide +kernel
theorem dX7_accountsNow_18 : decode cX7_accountsNow 18 = .ok (.getfield 30, 3) := by decide +kernel
theorem dX7_accountsNow_21 : decode cX7_accountsNow 21 = .ok (.iconst 2, 1) := by decide +kernel
theorem dX7_accountsNow_22 : decode cX7_accountsNow 22 = .ok (.aaload, 1) := by decide +kernel
theorem dX7_accountsNow_23 : decode cX7_accountsNow 23 = .ok (.aload_n 0, 1) := by decide +kernel
theorem dX7_accountsNow_24 : decode cX7_accountsNow 24 = .ok (.getfield 34, 3) := by decide +kernel
theorem dX7_accountsNow_27 : decode cX7_accountsNow 27 = .ok (.iconst 0, 1) := by decide +kernel
theorem dX7_accountsNow_28 : decode cX7_accountsNow 28 = .ok (.iaload, 1) := by decide +kernel
theorem dX7_accountsNow_29 : decode cX7_accountsNow 29 = .ok (.aload_n 0, 1) := by decide +kernel
theorem dX7_accountsNow_30 : decode cX7_accountsNow 30 = .ok (.getfield 34, 3) := by decide +kernel
theorem dX7_accountsNow_33 : decode cX7_accountsNow 33 = .ok (.iconst 1, 1) := by decide +kernel
theorem dX7_accountsNow_34 : decode cX7_accountsNow 34 = .ok (.iaload, 1) := by decide +kernel
theorem dX7_accountsNow_35 : decode cX7_accountsNow 35 = .ok (.invokevirtual 378, 3) := by decide +kernel
theorem dX7_accountsNow_38 : decode cX7_accountsNow 38 = .ok (.aload_n 0, 1) := by decide +kernel
theorem dX7_accountsNow_39 : decode cX7_accountsNow 39 = .ok (.iconst 0, 1) := by decide +kernel
theorem dX7_accountsNow_40 : decode cX7_accountsNow 40 = .ok (.putfield 58, 3) := by decide +kernel
theorem dX7_accountsNow_43 : decode cX7_accountsNow 43 = .ok (.aload_n 0, 1) := by decide +kernel
theorem dX7_accountsNow_44 : decode cX7_accountsNow 44 = .ok (.getfield 54, 3) := by decide +kernel
theorem dX7_accountsNow_47 : decode cX7_accountsNow 47 = .ok (.areturn, 1) := by decide +kernel
theorem dX7_worthOf_0 : decode cX7_worthOf 0 = .ok (.iload_n 1, 1) := by decide +kernel
theorem dX7_worthOf_1 : decode cX7_worthOf 1 = .ok (.iload_n 2, 1) := by decide +kernel
theorem dX7_worthOf_2 : decode cX7_worthOf 2 = .ok (.iand, 1) := by decide +kernel
theorem dX7_worthOf_3 : decode cX7_worthOf 3 = .ok (.istore_n 3, 1) := by decide +kernel
theorem dX7_worthOf_4 : decode cX7_worthOf 4 = .ok (.iconst 0, 1) := by decide +kernel
theorem dX7_worthOf_5 : decode cX7_worthOf 5 = .ok (.istore 4, 2) := by decide +kernel
theorem dX7_worthOf_7 : decode cX7_worthOf 7 = .ok (.iconst 0, 1) := by decide +kernel
theorem dX7_worthOf_8 : decode cX7_worthOf 8 = .ok (.istore 5, 2) := by decide +kernel
theorem dX7_worthOf_10 : decode cX7_worthOf 10 = .ok (.iload 5, 2) := by decide +kernel
theorem dX7_worthOf_12 : decode cX7_worthOf 12 = .ok (.bipush 10, 2) := by decide +kernel
theorem dX7_worthOf_14 : decode cX7_worthOf 14 = .ok (.if_icmp .ge 31, 3) := by decide +kernel
theorem dX7_worthOf_17 : decode cX7_worthOf 17 = .ok (.iload_n 3, 1) := by decide +kernel
theorem dX7_worthOf_18 : decode cX7_worthOf 18 = .ok (.iload 5, 2) := by decide +kernel
theorem dX7_worthOf_20 : decode cX7_worthOf 20 = .ok (.ishr, 1) := by decide +kernel
theorem dX7_worthOf_21 : decode cX7_worthOf 21 = .ok (.iconst 1, 1) := by decide +kernel
theorem dX7_worthOf_22 : decode cX7_worthOf 22 = .ok (.iand, 1) := by decide +kernel
theorem dX7_worthOf_23 : decode cX7_worthOf 23 = .ok (.iconst 1, 1) := by decide +kernel
theorem dX7_worthOf_24 : decode cX7_worthOf 24 = .ok (.if_icmp .ne 15, 3) := by decide +kernel
theorem dX7_worthOf_27 : decode cX7_worthOf 27 = .ok (.iload 4, 2) := by decide +kernel
theorem dX7_worthOf_29 : decode cX7_worthOf 29 = .ok (.aload_n 0, 1) := by decide +kernel
theorem dX7_worthOf_30 : decode cX7_worthOf 30 = .ok (.getfield 37, 3) := by decide +kernel
theorem dX7_worthOf_33 : decode cX7_worthOf 33 = .ok (.iload 5, 2) := by decide +kernel
theorem dX7_worthOf_35 : decode cX7_worthOf 35 = .ok (.iaload, 1) := by decide +kernel
theorem dX7_worthOf_36 : decode cX7_worthOf 36 = .ok (.iadd, 1) := by decide +kernel
theorem dX7_worthOf_37 : decode cX7_worthOf 37 = .ok (.istore 4, 2) := by decide +kernel
theorem dX7_worthOf_39 : decode cX7_worthOf 39 = .ok (.iinc 5 1, 3) := by decide +kernel
theorem dX7_worthOf_42 : decode cX7_worthOf 42 = .ok (.goto (-32), 3) := by decide +kernel
theorem dX7_worthOf_45 : decode cX7_worthOf 45 = .ok (.iload 4, 2) := by decide +kernel
theorem dX7_worthOf_47 : decode cX7_worthOf 47 = .ok (.ireturn, 1) := by decide +kernel
theorem dX7_bestRow_0 : decode cX7_bestRow 0 = .ok (.iconst (-1), 1) := by decide +kernel
theorem dX7_bestRow_1 : decode cX7_bestRow 1 = .ok (.istore_n 3, 1) := by decide +kernel
theorem dX7_bestRow_2 : decode cX7_bestRow 2 = .ok (.iconst 0, 1) := by decide +kernel
theorem dX7_bestRow_3 : decode cX7_bestRow 3 = .ok (.istore 4, 2) := by decide +kernel
theorem dX7_bestRow_5 : decode cX7_bestRow 5 = .ok (.iconst 0, 1) := by decide +kernel
theorem dX7_bestRow_6 : decode cX7_bestRow 6 = .ok (.istore 5, 2) := by decide +kernel
theorem dX7_bestRow_8 : decode cX7_bestRow 8 = .ok (.iload 5, 2) := by decide +kernel
theorem dX7_bestRow_10 : decode cX7_bestRow 10 = .ok (.aload_n 1, 1) := by decide +kernel
theorem dX7_bestRow_11 : decode cX7_bestRow 11 = .ok (.invokevirtual 159, 3) := by decide +kernel
theorem dX7_bestRow_14 : decode cX7_bestRow 14 = .ok (.if_icmp .ge 45, 3) := by decide +kernel
theorem dX7_bestRow_17 : decode cX7_bestRow 17 = .ok (.aload_n 0, 1) := by decide +kernel
theorem dX7_bestRow_18 : decode cX7_bestRow 18 = .ok (.aload_n 1, 1) := by decide +kernel
theorem dX7_bestRow_19 : decode cX7_bestRow 19 = .ok (.iload 5, 2) := by decide +kernel
theorem dX7_bestRow_21 : decode cX7_bestRow 21 = .ok (.invokevirtual 160, 3) := by decide +kernel
theorem dX7_bestRow_24 : decode cX7_bestRow 24 = .ok (.iload_n 2, 1) := by decide +kernel
theorem dX7_bestRow_25 : decode cX7_bestRow 25 = .ok (.invokevirtual 215, 3) := by decide +kernel
theorem dX7_bestRow_28 : decode cX7_bestRow 28 = .ok (.istore 6, 2) := by decide +kernel
theorem dX7_bestRow_30 : decode cX7_bestRow 30 = .ok (.iload_n 3, 1) := by decide +kernel
theorem dX7_bestRow_31 : decode cX7_bestRow 31 = .ok (.iconst (-1), 1) := by decide +kernel
theorem dX7_bestRow_32 : decode cX7_bestRow 32 = .ok (.if_icmp .eq 10, 3) := by decide +kernel
theorem dX7_bestRow_35 : decode cX7_bestRow 35 = .ok (.iload 6, 2) := by decide +kernel
theorem dX7_bestRow_37 : decode cX7_bestRow 37 = .ok (.iload 4, 2) := by decide +kernel
theorem dX7_bestRow_39 : decode cX7_bestRow 39 = .ok (.if_icmp .le 14, 3) := by decide +kernel
theorem dX7_bestRow_42 : decode cX7_bestRow 42 = .ok (.aload_n 1, 1) := by decide +kernel
theorem dX7_bestRow_43 : decode cX7_bestRow 43 = .ok (.iload 5, 2) := by decide +kernel
theorem dX7_bestRow_45 : decode cX7_bestRow 45 = .ok (.invokevirtual 160, 3) := by decide +kernel
theorem dX7_bestRow_48 : decode cX7_bestRow 48 = .ok (.istore_n 3, 1) := by decide +kernel
theorem dX7_bestRow_49 : decode cX7_bestRow 49 = .ok (.iload 6, 2) := by decide +kernel
theorem dX7_bestRow_51 : decode cX7_bestRow 51 = .ok (.istore 4, 2) := by decide +kernel
theorem dX7_bestRow_53 : decode cX7_bestRow 53 = .ok (.iinc 5 1, 3) := by decide +kernel
theorem dX7_bestRow_56 : decode cX7_bestRow 56 = .ok (.goto (-48), 3) := by decide +kernel
theorem dX7_bestRow_59 : decode cX7_bestRow 59 = .ok (.iload_n 3, 1) := by decide +kernel
theorem dX7_bestRow_60 : decode cX7_bestRow 60 = .ok (.ireturn, 1) := by decide +kernel
theorem dX7_hasBetter_0 : decode cX7_hasBetter 0 = .ok (.aload_n 0, 1) := by decide +kernel
theorem dX7_hasBetter_1 : decode cX7_hasBetter 1 = .ok (.iload_n 2, 1) := by decide +kernel
theorem dX7_hasBetter_2 : decode cX7_hasBetter 2 = .ok (.aload_n 1, 1) := by decide +kernel
theorem dX7_hasBetter_3 : decode cX7_hasBetter 3 = .ok (.invokevirtual 381, 3) := by decide +kernel
theorem dX7_hasBetter_6 : decode cX7_hasBetter 6 = .ok (.iand, 1) := by decide +kernel
theorem dX7_hasBetter_7 : decode cX7_hasBetter 7 = .ok (.iload_n 3, 1) := by decide +kernel
theorem dX7_hasBetter_8 : decode cX7_hasBetter 8 = .ok (.invokevirtual 215, 3) := by decide +kernel
theorem dX7_hasBetter_11 : decode cX7_hasBetter 11 = .ok (.istore 4, 2) := by decide +kernel
theorem dX7_hasBetter_13 : decode cX7_hasBetter 13 = .ok (.iconst 0, 1) := by decide +kernel
theorem dX7_hasBetter_14 : decode cX7_hasBetter 14 = .ok (.istore 5, 2) := by decide +kernel
theorem dX7_hasBetter_16 : decode cX7_hasBetter 16 = .ok (.iload 5, 2) := by decide +kernel
theorem dX7_hasBetter_18 : decode cX7_hasBetter 18 = .ok (.aload_n 1, 1) := by decide +kernel
theorem dX7_hasBetter_19 : decode cX7_hasBetter 19 = .ok (.invokevirtual 381, 3) := by decide +kernel
theorem dX7_hasBetter_22 : decode cX7_hasBetter 22 = .ok (.if_icmp .gt 48, 3) := by decide +kernel
theorem dX7_hasBetter_25 : decode cX7_hasBetter 25 = .ok (.aload_n 1, 1) := by decide +kernel
theorem dX7_hasBetter_26 : decode cX7_hasBetter 26 = .ok (.iload 5, 2) := by decide +kernel
theorem dX7_hasBetter_28 : decode cX7_hasBetter 28 = .ok (.invokevirtual 183, 3) := by decide +kernel
theorem dX7_hasBetter_31 : decode cX7_hasBetter 31 = .ok (.iload_n 3, 1) := by decide +kernel
theorem dX7_hasBetter_32 : decode cX7_hasBetter 32 = .ok (.iconst (-1), 1) := by decide +kernel
theorem dX7_hasBetter_33 : decode cX7_hasBetter 33 = .ok (.ixor, 1) := by decide +kernel
theorem dX7_hasBetter_34 : decode cX7_hasBetter 34 = .ok (.iand, 1) := by decide +kernel
theorem dX7_hasBetter_35 : decode cX7_hasBetter 35 = .ok (.ifCond .ne 7, 3) := by decide +kernel
theorem dX7_hasBetter_38 : decode cX7_hasBetter 38 = .ok (.iconst 1, 1) := by decide +kernel
theorem dX7_hasBetter_39 : decode cX7_hasBetter 39 = .ok (.goto 4, 3) := by decide +kernel
theorem dX7_hasBetter_42 : decode cX7_hasBetter 42 = .ok (.iconst 0, 1) := by decide +kernel
theorem dX7_hasBetter_43 : decode cX7_hasBetter 43 = .ok (.istore 6, 2) := by decide +kernel
theorem dX7_hasBetter_45 : decode cX7_hasBetter 45 = .ok (.iload 6, 2) := by decide +kernel
theorem dX7_hasBetter_47 : decode cX7_hasBetter 47 = .ok (.ifCond .eq 17, 3) := by decide +kernel
theorem dX7_hasBetter_50 : decode cX7_hasBetter 50 = .ok (.aload_n 0, 1) := by decide +kernel
theorem dX7_hasBetter_51 : decode cX7_hasBetter 51 = .ok (.iload 5, 2) := by decide +kernel
theorem dX7_hasBetter_53 : decode cX7_hasBetter 53 = .ok (.iload_n 3, 1) := by decide +kernel
theorem dX7_hasBetter_54 : decode cX7_hasBetter 54 = .ok (.invokevirtual 215, 3) := by decide +kernel
theorem dX7_hasBetter_57 : decode cX7_hasBetter 57 = .ok (.iload 4, 2) := by decide +kernel
theorem dX7_hasBetter_59 : decode cX7_hasBetter 59 = .ok (.if_icmp .le 5, 3) := by decide +kernel
theorem dX7_hasBetter_62 : decode cX7_hasBetter 62 = .ok (.iconst 1, 1) := by decide +kernel
theorem dX7_hasBetter_63 : decode cX7_hasBetter 63 = .ok (.ireturn, 1) := by decide +kernel
theorem dX7_hasBetter_64 : decode cX7_hasBetter 64 = .ok (.iinc 5 1, 3) := by decide +kernel
theorem dX7_hasBetter_67 : decode cX7_hasBetter 67 = .ok (.goto (-51), 3) := by decide +kernel
theorem dX7_hasBetter_70 : decode cX7_hasBetter 70 = .ok (.iconst 0, 1) := by decide +kernel
theorem dX7_hasBetter_71 : decode cX7_hasBetter 71 = .ok (.ireturn, 1) := by decide +kernel
theorem dJ6_bitCount_0f7a4_0 : decode cJ6_bitCount_0f7a4 0 = .ok (.iload_n 0, 1) := by decide +kernel
theorem dJ6_bitCount_0f7a4_1 : decode cJ6_bitCount_0f7a4 1 = .ok (.iload_n 0, 1) := by decide +kernel
theorem dJ6_bitCount_0f7a4_2 : decode cJ6_bitCount_0f7a4 2 = .ok (.iconst 1, 1) := by decide +kernel
theorem dJ6_bitCount_0f7a4_3 : decode cJ6_bitCount_0f7a4 3 = .ok (.iushr, 1) := by decide +kernel
theorem dJ6_bitCount_0f7a4_4 : decode cJ6_bitCount_0f7a4 4 = .ok (.ldc_w 265, 3) := by decide +kernel
theorem dJ6_bitCount_0f7a4_7 : decode cJ6_bitCount_0f7a4 7 = .ok (.iand, 1) := by decide +kernel
theorem dJ6_bitCount_0f7a4_8 : decode cJ6_bitCount_0f7a4 8 = .ok (.isub, 1) := by decide +kernel
theorem dJ6_bitCount_0f7a4_9 : decode cJ6_bitCount_0f7a4 9 = .ok (.istore_n 0, 1) := by decide +kernel
theorem dJ6_bitCount_0f7a4_10 : decode cJ6_bitCount_0f7a4 10 = .ok (.iload_n 0, 1) := by decide +kernel
theorem dJ6_bitCount_0f7a4_11 : decode cJ6_bitCount_0f7a4 11 = .ok (.ldc_w 266, 3) := by decide +kernel
theorem dJ6_bitCount_0f7a4_14 : decode cJ6_bitCount_0f7a4 14 = .ok (.iand, 1) := by decide +kernel
theorem dJ6_bitCount_0f7a4_15 : decode cJ6_bitCount_0f7a4 15 = .ok (.iload_n 0, 1) := by decide +kernel
theorem dJ6_bitCount_0f7a4_16 : decode cJ6_bitCount_0f7a4 16 = .ok (.iconst 2, 1) := by decide +kernel
theorem dJ6_bitCount_0f7a4_17 : decode cJ6_bitCount_0f7a4 17 = .ok (.iushr, 1) := by decide +kernel
theorem dJ6_bitCount_0f7a4_18 : decode cJ6_bitCount_0f7a4 18 = .ok (.ldc_w 266, 3) := by decide +kernel
theorem dJ6_bitCount_0f7a4_21 : decode cJ6_bitCount_0f7a4 21 = .ok (.iand, 1) := by decide +kernel
theorem dJ6_bitCount_0f7a4_22 : decode cJ6_bitCount_0f7a4 22 = .ok (.iadd, 1) := by decide +kernel
theorem dJ6_bitCount_0f7a4_23 : decode cJ6_bitCount_0f7a4 23 = .ok (.istore_n 0, 1) := by decide +kernel
theorem dJ6_bitCount_0f7a4_24 : decode cJ6_bitCount_0f7a4 24 = .ok (.iload_n 0, 1) := by decide +kernel
theorem dJ6_bitCount_0f7a4_25 : decode cJ6_bitCount_0f7a4 25 = .ok (.iload_n 0, 1) := by decide +kernel
theorem dJ6_bitCount_0f7a4_26 : decode cJ6_bitCount_0f7a4 26 = .ok (.iconst 4, 1) := by decide +kernel
theorem dJ6_bitCount_0f7a4_27 : decode cJ6_bitCount_0f7a4 27 = .ok (.iushr, 1) := by decide +kernel
theorem dJ6_bitCount_0f7a4_28 : decode cJ6_bitCount_0f7a4 28 = .ok (.iadd, 1) := by decide +kernel
theorem dJ6_bitCount_0f7a4_29 : decode cJ6_bitCount_0f7a4 29 = .ok (.ldc_w 267, 3) := by decide +kernel
theorem dJ6_bitCount_0f7a4_32 : decode cJ6_bitCount_0f7a4 32 = .ok (.iand, 1) := by decide +kernel
theorem dJ6_bitCount_0f7a4_33 : decode cJ6_bitCount_0f7a4 33 = .ok (.istore_n 0, 1) := by decide +kernel
theorem dJ6_bitCount_0f7a4_34 : decode cJ6_bitCount_0f7a4 34 = .ok (.iload_n 0, 1) := by decide +kernel
theorem dJ6_bitCount_0f7a4_35 : decode cJ6_bitCount_0f7a4 35 = .ok (.iload_n 0, 1) := by decide +kernel
theorem dJ6_bitCount_0f7a4_36 : decode cJ6_bitCount_0f7a4 36 = .ok (.bipush 8, 2) := by decide +kernel
theorem dJ6_bitCount_0f7a4_38 : decode cJ6_bitCount_0f7a4 38 = .ok (.iushr, 1) := by decide +kernel
theorem dJ6_bitCount_0f7a4_39 : decode cJ6_bitCount_0f7a4 39 = .ok (.iadd, 1) := by decide +kernel
theorem dJ6_bitCount_0f7a4_40 : decode cJ6_bitCount_0f7a4 40 = .ok (.istore_n 0, 1) := by decide +kernel
theorem dJ6_bitCount_0f7a4_41 : decode cJ6_bitCount_0f7a4 41 = .ok (.iload_n 0, 1) := by decide +kernel
theorem dJ6_bitCount_0f7a4_42 : decode cJ6_bitCount_0f7a4 42 = .ok (.iload_n 0, 1) := by decide +kernel
theorem dJ6_bitCount_0f7a4_43 : decode cJ6_bitCount_0f7a4 43 = .ok (.bipush 16, 2) := by decide +kernel
theorem dJ6_bitCount_0f7a4_45 : decode cJ6_bitCount_0f7a4 45 = .ok (.iushr, 1) := by decide +kernel
theorem dJ6_bitCount_0f7a4_46 : decode cJ6_bitCount_0f7a4 46 = .ok (.iadd, 1) := by decide +kernel
theorem dJ6_bitCount_0f7a4_47 : decode cJ6_bitCount_0f7a4 47 = .ok (.istore_n 0, 1) := by decide +kernel
theorem dJ6_bitCount_0f7a4_48 : decode cJ6_bitCount_0f7a4 48 = .ok (.iload_n 0, 1) := by decide +kernel
theorem dJ6_bitCount_0f7a4_49 : decode cJ6_bitCount_0f7a4 49 = .ok (.bipush 63, 2) := by decide +kernel
theorem dJ6_bitCount_0f7a4_51 : decode cJ6_bitCount_0f7a4 51 = .ok (.iand, 1) := by decide +kernel
theorem dJ6_bitCount_0f7a4_52 : decode cJ6_bitCount_0f7a4 52 = .ok (.ireturn, 1) := by decide +kernel
theorem dJ9_max_7cf53_0 : decode cJ9_max_7cf53 0 = .ok (.iload_n 0, 1) := by decide +kernel
theorem dJ9_max_7cf53_1 : decode cJ9_max_7cf53 1 = .ok (.iload_n 1, 1) := by decide +kernel
theorem dJ9_max_7cf53_2 : decode cJ9_max_7cf53 2 = .ok (.if_icmp .lt 7, 3) := by decide +kernel
theorem dJ9_max_7cf53_5 : decode cJ9_max_7cf53 5 = .ok (.iload_n 0, 1) := by decide +kernel
theorem dJ9_max_7cf53_6 : decode cJ9_max_7cf53 6 = .ok (.goto 4, 3) := by decide +kernel
theorem dJ9_max_7cf53_9 : decode cJ9_max_7cf53 9 = .ok (.iload_n 1, 1) := by decide +kernel
theorem dJ9_max_7cf53_10 : decode cJ9_max_7cf53 10 = .ok (.ireturn, 1) := by decide +kernel
theorem dJ9_min_7cf53_0 : decode cJ9_min_7cf53 0 = .ok (.iload_n 0, 1) := by decide +kernel
theorem dJ9_min_7cf53_1 : decode cJ9_min_7cf53 1 = .ok (.iload_n 1, 1) := by decide +kernel
theorem dJ9_min_7cf53_2 : decode cJ9_min_7cf53 2 = .ok (.if_icmp .gt 7, 3) := by decide +kernel
theorem dJ9_min_7cf53_5 : decode cJ9_min_7cf53 5 = .ok (.iload_n 0, 1) := by decide +kernel
theorem dJ9_min_7cf53_6 : decode cJ9_min_7cf53 6 = .ok (.goto 4, 3) := by decide +kernel
theorem dJ9_min_7cf53_9 : decode cJ9_min_7cf53 9 = .ok (.iload_n 1, 1) := by decide +kernel
theorem dJ9_min_7cf53_10 : decode cJ9_min_7cf53 10 = .ok (.ireturn, 1) := by decide +kernel
theorem dJ0_length_8abf5_0 : decode cJ0_length_8abf5 0 = .ok (.aload_n 0, 1) := by decide +kernel
theorem dJ0_length_8abf5_1 : decode cJ0_length_8abf5 1 = .ok (.getfield 9, 3) := by decide +kernel
theorem dJ0_length_8abf5_4 : decode cJ0_length_8abf5 4 = .ok (.arraylength, 1) := by decide +kernel
theorem dJ0_length_8abf5_5 : decode cJ0_length_8abf5 5 = .ok (.aload_n 0, 1) := by decide +kernel
theorem dJ0_length_8abf5_6 : decode cJ0_length_8abf5 6 = .ok (.invokevirtual 335, 3) := by decide +kernel
theorem dJ0_length_8abf5_9 : decode cJ0_length_8abf5 9 = .ok (.ishr, 1) := by decide +kernel
theorem dJ0_length_8abf5_10 : decode cJ0_length_8abf5 10 = .ok (.ireturn, 1) := by decide +kernel
theorem dJ0_indexOf_0f7a4_0 : decode cJ0_indexOf_0f7a4 0 = .ok (.aload_n 0, 1) := by decide +kernel
theorem dJ0_indexOf_0f7a4_1 : decode cJ0_indexOf_0f7a4 1 = .ok (.iload_n 1, 1) := by decide +kernel
theorem dJ0_indexOf_0f7a4_2 : decode cJ0_indexOf_0f7a4 2 = .ok (.iconst 0, 1) := by decide +kernel
theorem dJ0_indexOf_0f7a4_3 : decode cJ0_indexOf_0f7a4 3 = .ok (.invokevirtual 633, 3) := by decide +kernel
theorem dJ0_indexOf_0f7a4_6 : decode cJ0_indexOf_0f7a4 6 = .ok (.ireturn, 1) := by decide +kernel
theorem dJ0_indexOf_7cf53_0 : decode cJ0_indexOf_7cf53 0 = .ok (.aload_n 0, 1) := by decide +kernel
theorem dJ0_indexOf_7cf53_1 : decode cJ0_indexOf_7cf53 1 = .ok (.invokevirtual 492, 3) := by decide +kernel
theorem dJ0_indexOf_7cf53_4 : decode cJ0_indexOf_7cf53 4 = .ok (.ifCond .eq 19, 3) := by decide +kernel
theorem dJ0_indexOf_7cf53_7 : decode cJ0_indexOf_7cf53 7 = .ok (.aload_n 0, 1) := by decide +kernel
theorem dJ0_indexOf_7cf53_8 : decode cJ0_indexOf_7cf53 8 = .ok (.getfield 9, 3) := by decide +kernel
theorem dJ0_indexOf_7cf53_11 : decode cJ0_indexOf_7cf53 11 = .ok (.iload_n 1, 1) := by decide +kernel
theorem dJ0_indexOf_7cf53_12 : decode cJ0_indexOf_7cf53 12 = .ok (.iload_n 2, 1) := by decide +kernel
theorem dJ0_indexOf_7cf53_13 : decode cJ0_indexOf_7cf53 13 = .ok (.aload_n 0, 1) := by decide +kernel
theorem dJ0_indexOf_7cf53_14 : decode cJ0_indexOf_7cf53 14 = .ok (.invokevirtual 505, 3) := by decide +kernel
theorem dJ0_indexOf_7cf53_17 : decode cJ0_indexOf_7cf53 17 = .ok (.invokestatic 637, 3) := by decide +kernel
theorem dJ0_indexOf_7cf53_20 : decode cJ0_indexOf_7cf53 20 = .ok (.goto 16, 3) := by decide +kernel
theorem dJ0_indexOf_7cf53_23 : decode cJ0_indexOf_7cf53 23 = .ok (.aload_n 0, 1) := by decide +kernel
theorem dJ0_indexOf_7cf53_24 : decode cJ0_indexOf_7cf53 24 = .ok (.getfield 9, 3) := by decide +kernel
theorem dJ0_indexOf_7cf53_27 : decode cJ0_indexOf_7cf53 27 = .ok (.iload_n 1, 1) := by decide +kernel
theorem dJ0_indexOf_7cf53_28 : decode cJ0_indexOf_7cf53 28 = .ok (.iload_n 2, 1) := by decide +kernel
theorem dJ0_indexOf_7cf53_29 : decode cJ0_indexOf_7cf53 29 = .ok (.aload_n 0, 1) := by decide +kernel
theorem dJ0_indexOf_7cf53_30 : decode cJ0_indexOf_7cf53 30 = .ok (.invokevirtual 505, 3) := by decide +kernel
theorem dJ0_indexOf_7cf53_33 : decode cJ0_indexOf_7cf53 33 = .ok (.invokestatic 640, 3) := by decide +kernel
theorem dJ0_indexOf_7cf53_36 : decode cJ0_indexOf_7cf53 36 = .ok (.ireturn, 1) := by decide +kernel
theorem dJ0_coder_7d493_0 : decode cJ0_coder_7d493 0 = .ok (.getstatic 38, 3) := by decide +kernel
theorem dJ0_coder_7d493_3 : decode cJ0_coder_7d493 3 = .ok (.ifCond .eq 10, 3) := by decide +kernel
theorem dJ0_coder_7d493_6 : decode cJ0_coder_7d493 6 = .ok (.aload_n 0, 1) := by decide +kernel
theorem dJ0_coder_7d493_7 : decode cJ0_coder_7d493 7 = .ok (.getfield 15, 3) := by decide +kernel
theorem dJ0_coder_7d493_10 : decode cJ0_coder_7d493 10 = .ok (.goto 4, 3) := by decide +kernel
theorem dJ0_coder_7d493_13 : decode cJ0_coder_7d493 13 = .ok (.iconst 1, 1) := by decide +kernel
theorem dJ0_coder_7d493_14 : decode cJ0_coder_7d493 14 = .ok (.ireturn, 1) := by decide +kernel
theorem dJ0_isLatin1_aae02_0 : decode cJ0_isLatin1_aae02 0 = .ok (.getstatic 38, 3) := by decide +kernel
theorem dJ0_isLatin1_aae02_3 : decode cJ0_isLatin1_aae02 3 = .ok (.ifCond .eq 14, 3) := by decide +kernel
theorem dJ0_isLatin1_aae02_6 : decode cJ0_isLatin1_aae02 6 = .ok (.aload_n 0, 1) := by decide +kernel
theorem dJ0_isLatin1_aae02_7 : decode cJ0_isLatin1_aae02 7 = .ok (.getfield 15, 3) := by decide +kernel
theorem dJ0_isLatin1_aae02_10 : decode cJ0_isLatin1_aae02 10 = .ok (.ifCond .ne 7, 3) := by decide +kernel
theorem dJ0_isLatin1_aae02_13 : decode cJ0_isLatin1_aae02 13 = .ok (.iconst 1, 1) := by decide +kernel
theorem dJ0_isLatin1_aae02_14 : decode cJ0_isLatin1_aae02 14 = .ok (.goto 4, 3) := by decide +kernel
theorem dJ0_isLatin1_aae02_17 : decode cJ0_isLatin1_aae02 17 = .ok (.iconst 0, 1) := by decide +kernel
theorem dJ0_isLatin1_aae02_18 : decode cJ0_isLatin1_aae02 18 = .ok (.ireturn, 1) := by decide +kernel
theorem dJ1_canEncode_9a6ad_0 : decode cJ1_canEncode_9a6ad 0 = .ok (.iload_n 0, 1) := by decide +kernel
theorem dJ1_canEncode_9a6ad_1 : decode cJ1_canEncode_9a6ad 1 = .ok (.ifCond .lt 14, 3) := by decide +kernel
theorem dJ1_canEncode_9a6ad_4 : decode cJ1_canEncode_9a6ad 4 = .ok (.iload_n 0, 1) := by decide +kernel
theorem dJ1_canEncode_9a6ad_5 : decode cJ1_canEncode_9a6ad 5 = .ok (.sipush 255, 3) := by decide +kernel
theorem dJ1_canEncode_9a6ad_8 : decode cJ1_canEncode_9a6ad 8 = .ok (.if_icmp .gt 7, 3) := by decide +kernel
theorem dJ1_canEncode_9a6ad_11 : decode cJ1_canEncode_9a6ad 11 = .ok (.iconst 1, 1) := by decide +kernel
theorem dJ1_canEncode_9a6ad_12 : decode cJ1_canEncode_9a6ad 12 = .ok (.goto 4, 3) := by decide +kernel
theorem dJ1_canEncode_9a6ad_15 : decode cJ1_canEncode_9a6ad 15 = .ok (.iconst 0, 1) := by decide +kernel
theorem dJ1_canEncode_9a6ad_16 : decode cJ1_canEncode_9a6ad 16 = .ok (.ireturn, 1) := by decide +kernel
theorem dJ1_indexOf_4cfef_0 : decode cJ1_indexOf_4cfef 0 = .ok (.iload_n 1, 1) := by decide +kernel
theorem dJ1_indexOf_4cfef_1 : decode cJ1_indexOf_4cfef 1 = .ok (.invokestatic 88, 3) := by decide +kernel
theorem dJ1_indexOf_4cfef_4 : decode cJ1_indexOf_4cfef 4 = .ok (.ifCond .ne 5, 3) := by decide +kernel
theorem dJ1_indexOf_4cfef_7 : decode cJ1_indexOf_4cfef 7 = .ok (.iconst (-1), 1) := by decide +kernel
theorem dJ1_indexOf_4cfef_8 : decode cJ1_indexOf_4cfef 8 = .ok (.ireturn, 1) := by decide +kernel
theorem dJ1_indexOf_4cfef_9 : decode cJ1_indexOf_4cfef 9 = .ok (.iload_n 2, 1) := by decide +kernel
theorem dJ1_indexOf_4cfef_10 : decode cJ1_indexOf_4cfef 10 = .ok (.iconst 0, 1) := by decide +kernel
theorem dJ1_indexOf_4cfef_11 : decode cJ1_indexOf_4cfef 11 = .ok (.invokestatic 92, 3) := by decide +kernel
theorem dJ1_indexOf_4cfef_14 : decode cJ1_indexOf_4cfef 14 = .ok (.istore_n 2, 1) := by decide +kernel
theorem dJ1_indexOf_4cfef_15 : decode cJ1_indexOf_4cfef 15 = .ok (.iload_n 3, 1) := by decide +kernel
theorem dJ1_indexOf_4cfef_16 : decode cJ1_indexOf_4cfef 16 = .ok (.aload_n 0, 1) := by decide +kernel
theorem dJ1_indexOf_4cfef_17 : decode cJ1_indexOf_4cfef 17 = .ok (.arraylength, 1) := by decide +kernel
theorem dJ1_indexOf_4cfef_18 : decode cJ1_indexOf_4cfef 18 = .ok (.invokestatic 38, 3) := by decide +kernel
theorem dJ1_indexOf_4cfef_21 : decode cJ1_indexOf_4cfef 21 = .ok (.istore_n 3, 1) := by decide +kernel
theorem dJ1_indexOf_4cfef_22 : decode cJ1_indexOf_4cfef 22 = .ok (.iload_n 2, 1) := by decide +kernel
theorem dJ1_indexOf_4cfef_23 : decode cJ1_indexOf_4cfef 23 = .ok (.iload_n 3, 1) := by decide +kernel
theorem dJ1_indexOf_4cfef_24 : decode cJ1_indexOf_4cfef 24 = .ok (.if_icmp .lt 5, 3) := by decide +kernel
theorem dJ1_indexOf_4cfef_27 : decode cJ1_indexOf_4cfef 27 = .ok (.iconst (-1), 1) := by decide +kernel
theorem dJ1_indexOf_4cfef_28 : decode cJ1_indexOf_4cfef 28 = .ok (.ireturn, 1) := by decide +kernel
theorem dJ1_indexOf_4cfef_29 : decode cJ1_indexOf_4cfef 29 = .ok (.aload_n 0, 1) := by decide +kernel
theorem dJ1_indexOf_4cfef_30 : decode cJ1_indexOf_4cfef 30 = .ok (.iload_n 1, 1) := by decide +kernel
theorem dJ1_indexOf_4cfef_31 : decode cJ1_indexOf_4cfef 31 = .ok (.iload_n 2, 1) := by decide +kernel
theorem dJ1_indexOf_4cfef_32 : decode cJ1_indexOf_4cfef 32 = .ok (.iload_n 3, 1) := by decide +kernel
theorem dJ1_indexOf_4cfef_33 : decode cJ1_indexOf_4cfef 33 = .ok (.invokestatic 95, 3) := by decide +kernel
theorem dJ1_indexOf_4cfef_36 : decode cJ1_indexOf_4cfef 36 = .ok (.ireturn, 1) := by decide +kernel
theorem dJ1_indexOfChar_4cfef_0 : decode cJ1_indexOfChar_4cfef 0 = .ok (.iload_n 1, 1) := by decide +kernel
theorem dJ1_indexOfChar_4cfef_1 : decode cJ1_indexOfChar_4cfef 1 = .ok (.i2b, 1) := by decide +kernel
theorem dJ1_indexOfChar_4cfef_2 : decode cJ1_indexOfChar_4cfef 2 = .ok (.istore 4, 2) := by decide +kernel
theorem dJ1_indexOfChar_4cfef_4 : decode cJ1_indexOfChar_4cfef 4 = .ok (.iload_n 2, 1) := by decide +kernel
theorem dJ1_indexOfChar_4cfef_5 : decode cJ1_indexOfChar_4cfef 5 = .ok (.istore 5, 2) := by decide +kernel
theorem dJ1_indexOfChar_4cfef_7 : decode cJ1_indexOfChar_4cfef 7 = .ok (.iload 5, 2) := by decide +kernel
theorem dJ1_indexOfChar_4cfef_9 : decode cJ1_indexOfChar_4cfef 9 = .ok (.iload_n 3, 1) := by decide +kernel
theorem dJ1_indexOfChar_4cfef_10 : decode cJ1_indexOfChar_4cfef 10 = .ok (.if_icmp .ge 21, 3) := by decide +kernel
theorem dJ1_indexOfChar_4cfef_13 : decode cJ1_indexOfChar_4cfef 13 = .ok (.aload_n 0, 1) := by decide +kernel
theorem dJ1_indexOfChar_4cfef_14 : decode cJ1_indexOfChar_4cfef 14 = .ok (.iload 5, 2) := by decide +kernel
theorem dJ1_indexOfChar_4cfef_16 : decode cJ1_indexOfChar_4cfef 16 = .ok (.baload, 1) := by decide +kernel
theorem dJ1_indexOfChar_4cfef_17 : decode cJ1_indexOfChar_4cfef 17 = .ok (.iload 4, 2) := by decide +kernel
theorem dJ1_indexOfChar_4cfef_19 : decode cJ1_indexOfChar_4cfef 19 = .ok (.if_icmp .ne 6, 3) := by decide +kernel
theorem dJ1_indexOfChar_4cfef_22 : decode cJ1_indexOfChar_4cfef 22 = .ok (.iload 5, 2) := by decide +kernel
theorem dJ1_indexOfChar_4cfef_24 : decode cJ1_indexOfChar_4cfef 24 = .ok (.ireturn, 1) := by decide +kernel
theorem dJ1_indexOfChar_4cfef_25 : decode cJ1_indexOfChar_4cfef 25 = .ok (.iinc 5 1, 3) := by decide +kernel
theorem dJ1_indexOfChar_4cfef_28 : decode cJ1_indexOfChar_4cfef 28 = .ok (.goto (-21), 3) := by decide +kernel
theorem dJ1_indexOfChar_4cfef_31 : decode cJ1_indexOfChar_4cfef 31 = .ok (.iconst (-1), 1) := by decide +kernel
theorem dJ1_indexOfChar_4cfef_32 : decode cJ1_indexOfChar_4cfef 32 = .ok (.ireturn, 1) := by decide +kernel
theorem dJ7_fill_53178_0 : decode cJ7_fill_53178 0 = .ok (.iconst 0, 1) := by decide +kernel
theorem dJ7_fill_53178_1 : decode cJ7_fill_53178 1 = .ok (.istore_n 2, 1) := by decide +kernel
theorem dJ7_fill_53178_2 : decode cJ7_fill_53178 2 = .ok (.aload_n 0, 1) := by decide +kernel
theorem dJ7_fill_53178_3 : decode cJ7_fill_53178 3 = .ok (.arraylength, 1) := by decide +kernel
theorem dJ7_fill_53178_4 : decode cJ7_fill_53178 4 = .ok (.istore_n 3, 1) := by decide +kernel
theorem dJ7_fill_53178_5 : decode cJ7_fill_53178 5 = .ok (.iload_n 2, 1) := by decide +kernel
theorem dJ7_fill_53178_6 : decode cJ7_fill_53178 6 = .ok (.iload_n 3, 1) := by decide +kernel
theorem dJ7_fill_53178_7 : decode cJ7_fill_53178 7 = .ok (.if_icmp .ge 13, 3) := by decide +kernel
theorem dJ7_fill_53178_10 : decode cJ7_fill_53178 10 = .ok (.aload_n 0, 1) := by decide +kernel
theorem dJ7_fill_53178_11 : decode cJ7_fill_53178 11 = .ok (.iload_n 2, 1) := by decide +kernel
theorem dJ7_fill_53178_12 : decode cJ7_fill_53178 12 = .ok (.iload_n 1, 1) := by decide +kernel
theorem dJ7_fill_53178_13 : decode cJ7_fill_53178 13 = .ok (.iastore, 1) := by decide +kernel
theorem dJ7_fill_53178_14 : decode cJ7_fill_53178 14 = .ok (.iinc 2 1, 3) := by decide +kernel
theorem dJ7_fill_53178_17 : decode cJ7_fill_53178 17 = .ok (.goto (-12), 3) := by decide +kernel
theorem dJ7_fill_53178_20 : decode cJ7_fill_53178 20 = .ok (.return_, 1) := by decide +kernel
