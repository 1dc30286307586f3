theorem dX3_greatestRead_0 : decode (me_b mX3_greatestRead) 0 = .ok (.aload_n 0, 1) := by decide +kernel
theorem dX3_greatestRead_1 : decode (me_b mX3_greatestRead) 1 = .ok (.getfield 31, 3) := by decide +kernel
theorem dX3_greatestRead_4 : decode (me_b mX3_greatestRead) 4 = .ok (.ireturn, 1) := by decide +kernel
theorem dX3_missing_0 : decode (me_b mX3_missing) 0 = .ok (.aload_n 0, 1) := by decide +kernel
theorem dX3_missing_1 : decode (me_b mX3_missing) 1 = .ok (.getfield 35, 3) := by decide +kernel
theorem dX3_missing_4 : decode (me_b mX3_missing) 4 = .ok (.ireturn, 1) := by decide +kernel
theorem dX3_isBroken_0 : decode (me_b mX3_isBroken) 0 = .ok (.aload_n 0, 1) := by decide +kernel
theorem dX3_isBroken_1 : decode (me_b mX3_isBroken) 1 = .ok (.invokevirtual 28, 3) := by decide +kernel
theorem dX3_isBroken_4 : decode (me_b mX3_isBroken) 4 = .ok (.aload_n 0, 1) := by decide +kernel
theorem dX3_isBroken_5 : decode (me_b mX3_isBroken) 5 = .ok (.getfield 21, 3) := by decide +kernel
theorem dX3_isBroken_8 : decode (me_b mX3_isBroken) 8 = .ok (.iconst 0, 1) := by decide +kernel
theorem dX3_isBroken_9 : decode (me_b mX3_isBroken) 9 = .ok (.iload_n 2, 1) := by decide +kernel
theorem dX3_isBroken_10 : decode (me_b mX3_isBroken) 10 = .ok (.iastore, 1) := by decide +kernel
theorem dX3_isBroken_11 : decode (me_b mX3_isBroken) 11 = .ok (.aload_n 0, 1) := by decide +kernel
theorem dX3_isBroken_12 : decode (me_b mX3_isBroken) 12 = .ok (.getfield 21, 3) := by decide +kernel
theorem dX3_isBroken_15 : decode (me_b mX3_isBroken) 15 = .ok (.iconst 1, 1) := by decide +kernel
theorem dX3_isBroken_16 : decode (me_b mX3_isBroken) 16 = .ok (.iload_n 3, 1) := by decide +kernel
theorem dX3_isBroken_17 : decode (me_b mX3_isBroken) 17 = .ok (.iastore, 1) := by decide +kernel
theorem dX3_isBroken_18 : decode (me_b mX3_isBroken) 18 = .ok (.aload_n 0, 1) := by decide +kernel
theorem dX3_isBroken_19 : decode (me_b mX3_isBroken) 19 = .ok (.getfield 21, 3) := by decide +kernel
theorem dX3_isBroken_22 : decode (me_b mX3_isBroken) 22 = .ok (.iconst 2, 1) := by decide +kernel
theorem dX3_isBroken_23 : decode (me_b mX3_isBroken) 23 = .ok (.iload 4, 2) := by decide +kernel
theorem dX3_isBroken_25 : decode (me_b mX3_isBroken) 25 = .ok (.iastore, 1) := by decide +kernel
theorem dX3_isBroken_26 : decode (me_b mX3_isBroken) 26 = .ok (.aload_n 1, 1) := by decide +kernel
theorem dX3_isBroken_27 : decode (me_b mX3_isBroken) 27 = .ok (.invokevirtual 38, 3) := by decide +kernel
theorem dX3_isBroken_30 : decode (me_b mX3_isBroken) 30 = .ok (.iconst 1, 1) := by decide +kernel
theorem dX3_isBroken_31 : decode (me_b mX3_isBroken) 31 = .ok (.isub, 1) := by decide +kernel
theorem dX3_isBroken_32 : decode (me_b mX3_isBroken) 32 = .ok (.istore 5, 2) := by decide +kernel
theorem dX3_isBroken_34 : decode (me_b mX3_isBroken) 34 = .ok (.iload 5, 2) := by decide +kernel
theorem dX3_isBroken_36 : decode (me_b mX3_isBroken) 36 = .ok (.ifCond .lt 125, 3) := by decide +kernel
theorem dX3_isBroken_39 : decode (me_b mX3_isBroken) 39 = .ok (.aload_n 1, 1) := by decide +kernel
theorem dX3_isBroken_40 : decode (me_b mX3_isBroken) 40 = .ok (.iload 5, 2) := by decide +kernel
theorem dX3_isBroken_42 : decode (me_b mX3_isBroken) 42 = .ok (.invokevirtual 44, 3) := by decide +kernel
theorem dX3_isBroken_45 : decode (me_b mX3_isBroken) 45 = .ok (.istore 6, 2) := by decide +kernel
theorem dX3_isBroken_47 : decode (me_b mX3_isBroken) 47 = .ok (.iload 6, 2) := by decide +kernel
theorem dX3_isBroken_49 : decode (me_b mX3_isBroken) 49 = .ok (.invokestatic 48, 3) := by decide +kernel
theorem dX3_isBroken_52 : decode (me_b mX3_isBroken) 52 = .ok (.ifCond .eq 20, 3) := by decide +kernel
theorem dX3_isBroken_55 : decode (me_b mX3_isBroken) 55 = .ok (.aload_n 0, 1) := by decide +kernel
theorem dX3_isBroken_56 : decode (me_b mX3_isBroken) 56 = .ok (.aload_n 0, 1) := by decide +kernel
theorem dX3_isBroken_57 : decode (me_b mX3_isBroken) 57 = .ok (.getfield 21, 3) := by decide +kernel
theorem dX3_isBroken_60 : decode (me_b mX3_isBroken) 60 = .ok (.iload 6, 2) := by decide +kernel
theorem dX3_isBroken_62 : decode (me_b mX3_isBroken) 62 = .ok (.bipush 8, 2) := by decide +kernel
theorem dX3_isBroken_64 : decode (me_b mX3_isBroken) 64 = .ok (.isub, 1) := by decide +kernel
theorem dX3_isBroken_65 : decode (me_b mX3_isBroken) 65 = .ok (.iaload, 1) := by decide +kernel
theorem dX3_isBroken_66 : decode (me_b mX3_isBroken) 66 = .ok (.invokevirtual 52, 3) := by decide +kernel
theorem dX3_isBroken_69 : decode (me_b mX3_isBroken) 69 = .ok (.goto 86, 3) := by decide +kernel
theorem dX3_isBroken_72 : decode (me_b mX3_isBroken) 72 = .ok (.iload 6, 2) := by decide +kernel
theorem dX3_isBroken_74 : decode (me_b mX3_isBroken) 74 = .ok (.bipush 11, 2) := by decide +kernel
theorem dX3_isBroken_76 : decode (me_b mX3_isBroken) 76 = .ok (.if_icmp .ne 26, 3) := by decide +kernel
theorem dX3_isBroken_79 : decode (me_b mX3_isBroken) 79 = .ok (.aload_n 0, 1) := by decide +kernel
theorem dX3_isBroken_80 : decode (me_b mX3_isBroken) 80 = .ok (.aload_n 0, 1) := by decide +kernel
theorem dX3_isBroken_81 : decode (me_b mX3_isBroken) 81 = .ok (.invokevirtual 56, 3) := by decide +kernel
theorem dX3_isBroken_84 : decode (me_b mX3_isBroken) 84 = .ok (.aload_n 0, 1) := by decide +kernel
theorem dX3_isBroken_85 : decode (me_b mX3_isBroken) 85 = .ok (.invokevirtual 56, 3) := by decide +kernel
theorem dX3_isBroken_88 : decode (me_b mX3_isBroken) 88 = .ok (.if_icmp .ne 7, 3) := by decide +kernel
theorem dX3_isBroken_91 : decode (me_b mX3_isBroken) 91 = .ok (.iconst 1, 1) := by decide +kernel
theorem dX3_isBroken_92 : decode (me_b mX3_isBroken) 92 = .ok (.goto 4, 3) := by decide +kernel
theorem dX3_isBroken_95 : decode (me_b mX3_isBroken) 95 = .ok (.iconst 0, 1) := by decide +kernel
theorem dX3_isBroken_96 : decode (me_b mX3_isBroken) 96 = .ok (.putfield 59, 3) := by decide +kernel
theorem dX3_isBroken_99 : decode (me_b mX3_isBroken) 99 = .ok (.goto 56, 3) := by decide +kernel
theorem dX3_isBroken_102 : decode (me_b mX3_isBroken) 102 = .ok (.iload 6, 2) := by decide +kernel
theorem dX3_isBroken_104 : decode (me_b mX3_isBroken) 104 = .ok (.bipush 12, 2) := by decide +kernel
theorem dX3_isBroken_106 : decode (me_b mX3_isBroken) 106 = .ok (.if_icmp .ne 22, 3) := by decide +kernel
theorem dX3_isBroken_109 : decode (me_b mX3_isBroken) 109 = .ok (.aload_n 0, 1) := by decide +kernel
theorem dX3_isBroken_110 : decode (me_b mX3_isBroken) 110 = .ok (.aload_n 0, 1) := by decide +kernel
theorem dX3_isBroken_111 : decode (me_b mX3_isBroken) 111 = .ok (.getfield 59, 3) := by decide +kernel
theorem dX3_isBroken_114 : decode (me_b mX3_isBroken) 114 = .ok (.ifCond .ne 7, 3) := by decide +kernel
theorem dX3_isBroken_117 : decode (me_b mX3_isBroken) 117 = .ok (.iconst 1, 1) := by decide +kernel
theorem dX3_isBroken_118 : decode (me_b mX3_isBroken) 118 = .ok (.goto 4, 3) := by decide +kernel
theorem dX3_isBroken_121 : decode (me_b mX3_isBroken) 121 = .ok (.iconst 0, 1) := by decide +kernel
theorem dX3_isBroken_122 : decode (me_b mX3_isBroken) 122 = .ok (.putfield 59, 3) := by decide +kernel
theorem dX3_isBroken_125 : decode (me_b mX3_isBroken) 125 = .ok (.goto 30, 3) := by decide +kernel
theorem dX3_isBroken_128 : decode (me_b mX3_isBroken) 128 = .ok (.iload 6, 2) := by decide +kernel
theorem dX3_isBroken_130 : decode (me_b mX3_isBroken) 130 = .ok (.bipush 13, 2) := by decide +kernel
theorem dX3_isBroken_132 : decode (me_b mX3_isBroken) 132 = .ok (.if_icmp .ne 12, 3) := by decide +kernel
theorem dX3_isBroken_135 : decode (me_b mX3_isBroken) 135 = .ok (.aload_n 0, 1) := by decide +kernel
theorem dX3_isBroken_136 : decode (me_b mX3_isBroken) 136 = .ok (.getfield 59, 3) := by decide +kernel
theorem dX3_isBroken_139 : decode (me_b mX3_isBroken) 139 = .ok (.ifCond .eq 16, 3) := by decide +kernel
theorem dX3_isBroken_142 : decode (me_b mX3_isBroken) 142 = .ok (.iconst 0, 1) := by decide +kernel
theorem dX3_isBroken_143 : decode (me_b mX3_isBroken) 143 = .ok (.ireturn, 1) := by decide +kernel
theorem dX3_isBroken_144 : decode (me_b mX3_isBroken) 144 = .ok (.aload_n 0, 1) := by decide +kernel
theorem dX3_isBroken_145 : decode (me_b mX3_isBroken) 145 = .ok (.iload 6, 2) := by decide +kernel
theorem dX3_isBroken_147 : decode (me_b mX3_isBroken) 147 = .ok (.invokevirtual 63, 3) := by decide +kernel
theorem dX3_isBroken_150 : decode (me_b mX3_isBroken) 150 = .ok (.ifCond .ne 5, 3) := by decide +kernel
theorem dX3_isBroken_153 : decode (me_b mX3_isBroken) 153 = .ok (.iconst 0, 1) := by decide +kernel
theorem dX3_isBroken_154 : decode (me_b mX3_isBroken) 154 = .ok (.ireturn, 1) := by decide +kernel
theorem dX3_isBroken_155 : decode (me_b mX3_isBroken) 155 = .ok (.iinc 5 (-1), 3) := by decide +kernel
theorem dX3_isBroken_158 : decode (me_b mX3_isBroken) 158 = .ok (.goto (-124), 3) := by decide +kernel
theorem dX3_isBroken_161 : decode (me_b mX3_isBroken) 161 = .ok (.aload_n 0, 1) := by decide +kernel
theorem dX3_isBroken_162 : decode (me_b mX3_isBroken) 162 = .ok (.getfield 59, 3) := by decide +kernel
theorem dX3_isBroken_165 : decode (me_b mX3_isBroken) 165 = .ok (.ifCond .ne 7, 3) := by decide +kernel
theorem dX3_isBroken_168 : decode (me_b mX3_isBroken) 168 = .ok (.iconst 1, 1) := by decide +kernel
theorem dX3_isBroken_169 : decode (me_b mX3_isBroken) 169 = .ok (.goto 4, 3) := by decide +kernel
theorem dX3_isBroken_172 : decode (me_b mX3_isBroken) 172 = .ok (.iconst 0, 1) := by decide +kernel
theorem dX3_isBroken_173 : decode (me_b mX3_isBroken) 173 = .ok (.ireturn, 1) := by decide +kernel
theorem dX3_forgetLatest_0 : decode (me_b mX3_forgetLatest) 0 = .ok (.aload_n 0, 1) := by decide +kernel
theorem dX3_forgetLatest_1 : decode (me_b mX3_forgetLatest) 1 = .ok (.iconst 0, 1) := by decide +kernel
theorem dX3_forgetLatest_2 : decode (me_b mX3_forgetLatest) 2 = .ok (.putfield 66, 3) := by decide +kernel
theorem dX3_forgetLatest_5 : decode (me_b mX3_forgetLatest) 5 = .ok (.aload_n 0, 1) := by decide +kernel
theorem dX3_forgetLatest_6 : decode (me_b mX3_forgetLatest) 6 = .ok (.iconst 0, 1) := by decide +kernel
theorem dX3_forgetLatest_7 : decode (me_b mX3_forgetLatest) 7 = .ok (.putfield 59, 3) := by decide +kernel
theorem dX3_forgetLatest_10 : decode (me_b mX3_forgetLatest) 10 = .ok (.aload_n 0, 1) := by decide +kernel
theorem dX3_forgetLatest_11 : decode (me_b mX3_forgetLatest) 11 = .ok (.iconst (-1), 1) := by decide +kernel
theorem dX3_forgetLatest_12 : decode (me_b mX3_forgetLatest) 12 = .ok (.putfield 31, 3) := by decide +kernel
theorem dX3_forgetLatest_15 : decode (me_b mX3_forgetLatest) 15 = .ok (.aload_n 0, 1) := by decide +kernel
theorem dX3_forgetLatest_16 : decode (me_b mX3_forgetLatest) 16 = .ok (.sipush 128, 3) := by decide +kernel
theorem dX3_forgetLatest_19 : decode (me_b mX3_forgetLatest) 19 = .ok (.putfield 35, 3) := by decide +kernel
theorem dX3_forgetLatest_22 : decode (me_b mX3_forgetLatest) 22 = .ok (.return_, 1) := by decide +kernel
theorem dX3_readCell_0 : decode (me_b mX3_readCell) 0 = .ok (.aload_n 0, 1) := by decide +kernel
theorem dX3_readCell_1 : decode (me_b mX3_readCell) 1 = .ok (.getfield 11, 3) := by decide +kernel
theorem dX3_readCell_4 : decode (me_b mX3_readCell) 4 = .ok (.iload_n 1, 1) := by decide +kernel
theorem dX3_readCell_5 : decode (me_b mX3_readCell) 5 = .ok (.invokevirtual 69, 3) := by decide +kernel
theorem dX3_readCell_8 : decode (me_b mX3_readCell) 8 = .ok (.istore_n 2, 1) := by decide +kernel
theorem dX3_readCell_9 : decode (me_b mX3_readCell) 9 = .ok (.iload_n 2, 1) := by decide +kernel
theorem dX3_readCell_10 : decode (me_b mX3_readCell) 10 = .ok (.iconst 1, 1) := by decide +kernel
theorem dX3_readCell_11 : decode (me_b mX3_readCell) 11 = .ok (.if_icmp .lt 10, 3) := by decide +kernel
theorem dX3_readCell_14 : decode (me_b mX3_readCell) 14 = .ok (.aload_n 0, 1) := by decide +kernel
theorem dX3_readCell_15 : decode (me_b mX3_readCell) 15 = .ok (.invokevirtual 56, 3) := by decide +kernel
theorem dX3_readCell_18 : decode (me_b mX3_readCell) 18 = .ok (.goto 4, 3) := by decide +kernel
theorem dX3_readCell_21 : decode (me_b mX3_readCell) 21 = .ok (.iconst 0, 1) := by decide +kernel
theorem dX3_readCell_22 : decode (me_b mX3_readCell) 22 = .ok (.istore_n 3, 1) := by decide +kernel
theorem dX3_readCell_23 : decode (me_b mX3_readCell) 23 = .ok (.iload_n 2, 1) := by decide +kernel
theorem dX3_readCell_24 : decode (me_b mX3_readCell) 24 = .ok (.iconst 2, 1) := by decide +kernel
theorem dX3_readCell_25 : decode (me_b mX3_readCell) 25 = .ok (.if_icmp .lt 10, 3) := by decide +kernel
theorem dX3_readCell_28 : decode (me_b mX3_readCell) 28 = .ok (.aload_n 0, 1) := by decide +kernel
theorem dX3_readCell_29 : decode (me_b mX3_readCell) 29 = .ok (.invokevirtual 56, 3) := by decide +kernel
theorem dX3_readCell_32 : decode (me_b mX3_readCell) 32 = .ok (.goto 4, 3) := by decide +kernel
theorem dX3_readCell_35 : decode (me_b mX3_readCell) 35 = .ok (.iconst 0, 1) := by decide +kernel
theorem dX3_readCell_36 : decode (me_b mX3_readCell) 36 = .ok (.istore 4, 2) := by decide +kernel
theorem dX3_readCell_38 : decode (me_b mX3_readCell) 38 = .ok (.iload_n 1, 1) := by decide +kernel
theorem dX3_readCell_39 : decode (me_b mX3_readCell) 39 = .ok (.iload_n 3, 1) := by decide +kernel
theorem dX3_readCell_40 : decode (me_b mX3_readCell) 40 = .ok (.iload 4, 2) := by decide +kernel
theorem dX3_readCell_42 : decode (me_b mX3_readCell) 42 = .ok (.invokestatic 74, 3) := by decide +kernel
theorem dX3_readCell_45 : decode (me_b mX3_readCell) 45 = .ok (.istore 5, 2) := by decide +kernel
theorem dX3_readCell_47 : decode (me_b mX3_readCell) 47 = .ok (.aload_n 0, 1) := by decide +kernel
theorem dX3_readCell_48 : decode (me_b mX3_readCell) 48 = .ok (.getfield 17, 3) := by decide +kernel
theorem dX3_readCell_51 : decode (me_b mX3_readCell) 51 = .ok (.iload 5, 2) := by decide +kernel
theorem dX3_readCell_53 : decode (me_b mX3_readCell) 53 = .ok (.invokevirtual 78, 3) := by decide +kernel
theorem dX3_readCell_56 : decode (me_b mX3_readCell) 56 = .ok (.istore 6, 2) := by decide +kernel
theorem dX3_readCell_58 : decode (me_b mX3_readCell) 58 = .ok (.aload_n 0, 1) := by decide +kernel
theorem dX3_readCell_59 : decode (me_b mX3_readCell) 59 = .ok (.getfield 17, 3) := by decide +kernel
theorem dX3_readCell_62 : decode (me_b mX3_readCell) 62 = .ok (.iload 5, 2) := by decide +kernel
theorem dX3_readCell_64 : decode (me_b mX3_readCell) 64 = .ok (.invokevirtual 81, 3) := by decide +kernel
theorem dX3_readCell_67 : decode (me_b mX3_readCell) 67 = .ok (.istore 7, 2) := by decide +kernel
theorem dX3_readCell_69 : decode (me_b mX3_readCell) 69 = .ok (.iload 7, 2) := by decide +kernel
theorem dX3_readCell_71 : decode (me_b mX3_readCell) 71 = .ok (.iconst (-1), 1) := by decide +kernel
theorem dX3_readCell_72 : decode (me_b mX3_readCell) 72 = .ok (.if_icmp .ne 11, 3) := by decide +kernel
theorem dX3_readCell_75 : decode (me_b mX3_readCell) 75 = .ok (.aload_n 0, 1) := by decide +kernel
theorem dX3_readCell_76 : decode (me_b mX3_readCell) 76 = .ok (.iload 6, 2) := by decide +kernel
theorem dX3_readCell_78 : decode (me_b mX3_readCell) 78 = .ok (.putfield 35, 3) := by decide +kernel
theorem dX3_readCell_81 : decode (me_b mX3_readCell) 81 = .ok (.iconst 0, 1) := by decide +kernel
theorem dX3_readCell_82 : decode (me_b mX3_readCell) 82 = .ok (.ireturn, 1) := by decide +kernel
theorem dX3_readCell_83 : decode (me_b mX3_readCell) 83 = .ok (.aload_n 0, 1) := by decide +kernel
theorem dX3_readCell_84 : decode (me_b mX3_readCell) 84 = .ok (.aload_n 0, 1) := by decide +kernel
theorem dX3_readCell_85 : decode (me_b mX3_readCell) 85 = .ok (.getfield 31, 3) := by decide +kernel
theorem dX3_readCell_88 : decode (me_b mX3_readCell) 88 = .ok (.iload 6, 2) := by decide +kernel
theorem dX3_readCell_90 : decode (me_b mX3_readCell) 90 = .ok (.invokestatic 84, 3) := by decide +kernel
theorem dX3_readCell_93 : decode (me_b mX3_readCell) 93 = .ok (.putfield 31, 3) := by decide +kernel
theorem dX3_readCell_96 : decode (me_b mX3_readCell) 96 = .ok (.iload_n 1, 1) := by decide +kernel
theorem dX3_readCell_97 : decode (me_b mX3_readCell) 97 = .ok (.invokestatic 90, 3) := by decide +kernel
theorem dX3_readCell_100 : decode (me_b mX3_readCell) 100 = .ok (.ifCond .eq 21, 3) := by decide +kernel
theorem dX3_readCell_103 : decode (me_b mX3_readCell) 103 = .ok (.aload_n 0, 1) := by decide +kernel
theorem dX3_readCell_104 : decode (me_b mX3_readCell) 104 = .ok (.iload 7, 2) := by decide +kernel
theorem dX3_readCell_106 : decode (me_b mX3_readCell) 106 = .ok (.iconst 1, 1) := by decide +kernel
theorem dX3_readCell_107 : decode (me_b mX3_readCell) 107 = .ok (.if_icmp .ne 7, 3) := by decide +kernel
theorem dX3_readCell_110 : decode (me_b mX3_readCell) 110 = .ok (.iconst 1, 1) := by decide +kernel
theorem dX3_readCell_111 : decode (me_b mX3_readCell) 111 = .ok (.goto 4, 3) := by decide +kernel
theorem dX3_readCell_114 : decode (me_b mX3_readCell) 114 = .ok (.iconst 0, 1) := by decide +kernel
theorem dX3_readCell_115 : decode (me_b mX3_readCell) 115 = .ok (.putfield 59, 3) := by decide +kernel
theorem dX3_readCell_118 : decode (me_b mX3_readCell) 118 = .ok (.goto 9, 3) := by decide +kernel
theorem dX3_readCell_121 : decode (me_b mX3_readCell) 121 = .ok (.aload_n 0, 1) := by decide +kernel
theorem dX3_readCell_122 : decode (me_b mX3_readCell) 122 = .ok (.iload 7, 2) := by decide +kernel
theorem dX3_readCell_124 : decode (me_b mX3_readCell) 124 = .ok (.invokevirtual 52, 3) := by decide +kernel
theorem dX3_readCell_127 : decode (me_b mX3_readCell) 127 = .ok (.iconst 1, 1) := by decide +kernel
theorem dX3_readCell_128 : decode (me_b mX3_readCell) 128 = .ok (.ireturn, 1) := by decide +kernel
theorem dX3_push_0 : decode (me_b mX3_push) 0 = .ok (.aload_n 0, 1) := by decide +kernel
theorem dX3_push_1 : decode (me_b mX3_push) 1 = .ok (.getfield 66, 3) := by decide +kernel
theorem dX3_push_4 : decode (me_b mX3_push) 4 = .ok (.bipush 60, 2) := by decide +kernel
theorem dX3_push_6 : decode (me_b mX3_push) 6 = .ok (.if_icmp .ge 23, 3) := by decide +kernel
theorem dX3_push_9 : decode (me_b mX3_push) 9 = .ok (.aload_n 0, 1) := by decide +kernel
theorem dX3_push_10 : decode (me_b mX3_push) 10 = .ok (.getfield 25, 3) := by decide +kernel
theorem dX3_push_13 : decode (me_b mX3_push) 13 = .ok (.aload_n 0, 1) := by decide +kernel
theorem dX3_push_14 : decode (me_b mX3_push) 14 = .ok (.getfield 66, 3) := by decide +kernel
theorem dX3_push_17 : decode (me_b mX3_push) 17 = .ok (.iload_n 1, 1) := by decide +kernel
theorem dX3_push_18 : decode (me_b mX3_push) 18 = .ok (.iastore, 1) := by decide +kernel
theorem dX3_push_19 : decode (me_b mX3_push) 19 = .ok (.aload_n 0, 1) := by decide +kernel
theorem dX3_push_20 : decode (me_b mX3_push) 20 = .ok (.dup, 1) := by decide +kernel
theorem dX3_push_21 : decode (me_b mX3_push) 21 = .ok (.getfield 66, 3) := by decide +kernel
theorem dX3_push_24 : decode (me_b mX3_push) 24 = .ok (.iconst 1, 1) := by decide +kernel
theorem dX3_push_25 : decode (me_b mX3_push) 25 = .ok (.iadd, 1) := by decide +kernel
theorem dX3_push_26 : decode (me_b mX3_push) 26 = .ok (.putfield 66, 3) := by decide +kernel
theorem dX3_push_29 : decode (me_b mX3_push) 29 = .ok (.return_, 1) := by decide +kernel
theorem dX3_pop_0 : decode (me_b mX3_pop) 0 = .ok (.aload_n 0, 1) := by decide +kernel
theorem dX3_pop_1 : decode (me_b mX3_pop) 1 = .ok (.getfield 66, 3) := by decide +kernel
theorem dX3_pop_4 : decode (me_b mX3_pop) 4 = .ok (.ifCond .le 13, 3) := by decide +kernel
theorem dX3_pop_7 : decode (me_b mX3_pop) 7 = .ok (.aload_n 0, 1) := by decide +kernel
theorem dX3_pop_8 : decode (me_b mX3_pop) 8 = .ok (.dup, 1) := by decide +kernel
theorem dX3_pop_9 : decode (me_b mX3_pop) 9 = .ok (.getfield 66, 3) := by decide +kernel
theorem dX3_pop_12 : decode (me_b mX3_pop) 12 = .ok (.iconst 1, 1) := by decide +kernel
theorem dX3_pop_13 : decode (me_b mX3_pop) 13 = .ok (.isub, 1) := by decide +kernel
theorem dX3_pop_14 : decode (me_b mX3_pop) 14 = .ok (.putfield 66, 3) := by decide +kernel
theorem dX3_pop_17 : decode (me_b mX3_pop) 17 = .ok (.aload_n 0, 1) := by decide +kernel
theorem dX3_pop_18 : decode (me_b mX3_pop) 18 = .ok (.getfield 25, 3) := by decide +kernel
theorem dX3_pop_21 : decode (me_b mX3_pop) 21 = .ok (.aload_n 0, 1) := by decide +kernel
theorem dX3_pop_22 : decode (me_b mX3_pop) 22 = .ok (.getfield 66, 3) := by decide +kernel
theorem dX3_pop_25 : decode (me_b mX3_pop) 25 = .ok (.iaload, 1) := by decide +kernel
theorem dX3_pop_26 : decode (me_b mX3_pop) 26 = .ok (.ireturn, 1) := by decide +kernel
set_option maxRecDepth 20000 in
theorem s_X3_forgetLatest_0 {σ : ab_M} {Q : Option ab_V → ab_M → Prop} 
    (k : Q none (ab_upd (ab_upd (ab_upd (ab_upd σ 42 4 0) 42 5 0) 42 6 (-1)) 42 7 128)) :
    ev mX3_forgetLatest 0 [some (.inr (.inr 42))] [] σ Q := by
  refine ev_p (pc' := 1) (ls' := [some (.inr (.inr 42))]) (st' := [.inr (.inr 42)]) dX3_forgetLatest_0 rfl ?_
  refine ev_cst (v := 0) (pc' := 2) dX3_forgetLatest_1 (by decide) rfl ?_
  refine ev_putI (pc' := 5) dX3_forgetLatest_2 rfl rfl rfl rfl rfl rfl ?_
  refine ev_p (pc' := 6) (ls' := [some (.inr (.inr 42))]) (st' := [.inr (.inr 42)]) dX3_forgetLatest_5 rfl ?_
  refine ev_cst (v := 0) (pc' := 7) dX3_forgetLatest_6 (by decide) rfl ?_
  refine ev_putI (pc' := 10) dX3_forgetLatest_7 rfl rfl rfl rfl rfl rfl ?_
  refine ev_p (pc' := 11) (ls' := [some (.inr (.inr 42))]) (st' := [.inr (.inr 42)]) dX3_forgetLatest_10 rfl ?_
  refine ev_cst (v := (-1)) (pc' := 12) dX3_forgetLatest_11 (by decide) rfl ?_
  refine ev_putI (pc' := 15) dX3_forgetLatest_12 rfl rfl rfl rfl rfl rfl ?_
  refine ev_p (pc' := 16) (ls' := [some (.inr (.inr 42))]) (st' := [.inr (.inr 42)]) dX3_forgetLatest_15 rfl ?_
  refine ev_cst (v := 128) (pc' := 19) dX3_forgetLatest_16 (by decide) rfl ?_
  refine ev_putI (pc' := 22) dX3_forgetLatest_19 rfl rfl rfl rfl rfl rfl ?_
  exact ev_ret dX3_forgetLatest_22 rfl k
set_option maxRecDepth 20000 in
theorem s_X3_isBroken_0 {σ : ab_M} {Q : Option ab_V → ab_M → Prop} {q : Nat} {x2 : Int32} {x3 : Int32} {x4 : Int32} (hq : sh0[q]? = some (.inl (1, [some (some (q + 1)), some (some (q + 2)), none]))) (hq1 : sh0[q + 1]? = some (.inr (.inl (0, 60)))) (hq2 : sh0[q + 2]? = some (.inr (.inl (2, 3))))
    (k : evm mX3_forgetLatest [.inr (.inr 42)] σ (fun v τ1 => v = none ∧ ab_in 0 3 = true ∧ ab_in 1 3 = true ∧ ab_in 2 3 = true ∧ evm mX1_length [.inr (.inr q)] (ab_upd (ab_upd (ab_upd τ1 43 (0 : Int32).toNatClampNeg x2) 43 (1 : Int32).toNatClampNeg x3) 43 (2 : Int32).toNatClampNeg x4) (fun v τ2 => ∃ r3 : Int32, v = some (.inl r3) ∧ ev mX3_isBroken 34 [some (.inr (.inr 42)), some (.inr (.inr q)), some (.inl x2), some (.inl x3), some (.inl x4), some (.inl (r3 - 1)), none] [] τ2 Q))) :
    ev mX3_isBroken 0 [some (.inr (.inr 42)), some (.inr (.inr q)), some (.inl x2), some (.inl x3), some (.inl x4), none, none] [] σ Q := by
  refine ev_p (pc' := 1) (ls' := [some (.inr (.inr 42)), some (.inr (.inr q)), some (.inl x2), some (.inl x3), some (.inl x4), none, none]) (st' := [.inr (.inr 42)]) dX3_isBroken_0 rfl ?_
  refine ev_call (y := 8) (as := [.inr (.inr 42)]) (r := []) (M' := mX3_forgetLatest) (pc' := 4) dX3_isBroken_1 rfl rfl ⟨rfl, rfl⟩ rfl k rfl (fun v τ1 hq => ?_)
  obtain ⟨hv, k⟩ := hq
  rw [hv]
  change ev mX3_isBroken 4 [some (.inr (.inr 42)), some (.inr (.inr q)), some (.inl x2), some (.inl x3), some (.inl x4), none, none] [] τ1 _
  refine ev_p (pc' := 5) (ls' := [some (.inr (.inr 42)), some (.inr (.inr q)), some (.inl x2), some (.inl x3), some (.inl x4), none, none]) (st' := [.inr (.inr 42)]) dX3_isBroken_4 rfl ?_
  refine ev_getA (pc' := 8) (z := 43) dX3_isBroken_5 rfl rfl rfl rfl ?_
  refine ev_cst (v := 0) (pc' := 9) dX3_isBroken_8 (by decide) rfl ?_
  refine ev_p (pc' := 10) (ls' := [some (.inr (.inr 42)), some (.inr (.inr q)), some (.inl x2), some (.inl x3), some (.inl x4), none, none]) (st' := [.inl x2, .inl 0, .inr (.inr 43)]) dX3_isBroken_9 rfl ?_
  refine ev_stor (pc' := 11) (z := x2) rfl dX3_isBroken_10 rfl rfl k.1 rfl rfl ?_
  have k := k.2
  refine ev_p (pc' := 12) (ls' := [some (.inr (.inr 42)), some (.inr (.inr q)), some (.inl x2), some (.inl x3), some (.inl x4), none, none]) (st' := [.inr (.inr 42)]) dX3_isBroken_11 rfl ?_
  refine ev_getA (pc' := 15) (z := 43) dX3_isBroken_12 rfl rfl rfl rfl ?_
  refine ev_cst (v := 1) (pc' := 16) dX3_isBroken_15 (by decide) rfl ?_
  refine ev_p (pc' := 17) (ls' := [some (.inr (.inr 42)), some (.inr (.inr q)), some (.inl x2), some (.inl x3), some (.inl x4), none, none]) (st' := [.inl x3, .inl 1, .inr (.inr 43)]) dX3_isBroken_16 rfl ?_
  refine ev_stor (pc' := 18) (z := x3) rfl dX3_isBroken_17 rfl rfl k.1 rfl rfl ?_
  have k := k.2
  refine ev_p (pc' := 19) (ls' := [some (.inr (.inr 42)), some (.inr (.inr q)), some (.inl x2), some (.inl x3), some (.inl x4), none, none]) (st' := [.inr (.inr 42)]) dX3_isBroken_18 rfl ?_
  refine ev_getA (pc' := 22) (z := 43) dX3_isBroken_19 rfl rfl rfl rfl ?_
  refine ev_cst (v := 2) (pc' := 23) dX3_isBroken_22 (by decide) rfl ?_
  refine ev_p (pc' := 25) (ls' := [some (.inr (.inr 42)), some (.inr (.inr q)), some (.inl x2), some (.inl x3), some (.inl x4), none, none]) (st' := [.inl x4, .inl 2, .inr (.inr 43)]) dX3_isBroken_23 rfl ?_
  refine ev_stor (pc' := 26) (z := x4) rfl dX3_isBroken_25 rfl rfl k.1 rfl rfl ?_
  have k := k.2
  refine ev_p (pc' := 27) (ls' := [some (.inr (.inr 42)), some (.inr (.inr q)), some (.inl x2), some (.inl x3), some (.inl x4), none, none]) (st' := [.inr (.inr q)]) dX3_isBroken_26 rfl ?_
  refine ev_call (y := 54) (as := [.inr (.inr q)]) (r := []) (M' := mX1_length) (pc' := 30) dX3_isBroken_27 (ev_inv1 rfl rfl rfl rfl hq rfl rfl) rfl ⟨rfl, rfl⟩ rfl k rfl (fun v τ2 hq => ?_)
  obtain ⟨r3, hv, k⟩ := hq
  rw [hv]
  change ev mX3_isBroken 30 [some (.inr (.inr 42)), some (.inr (.inr q)), some (.inl x2), some (.inl x3), some (.inl x4), none, none] [.inl r3] τ2 _
  refine ev_cst (v := 1) (pc' := 31) dX3_isBroken_30 (by decide) rfl ?_
  refine ev_p (pc' := 32) (ls' := [some (.inr (.inr 42)), some (.inr (.inr q)), some (.inl x2), some (.inl x3), some (.inl x4), none, none]) (st' := [.inl (r3 - 1)]) dX3_isBroken_31 rfl ?_
  refine ev_p (pc' := 34) (ls' := [some (.inr (.inr 42)), some (.inr (.inr q)), some (.inl x2), some (.inl x3), some (.inl x4), some (.inl (r3 - 1)), none]) (st' := []) dX3_isBroken_32 rfl ?_
  exact k
set_option maxRecDepth 20000 in
theorem s_X3_isBroken_34 {σ : ab_M} {Q : Option ab_V → ab_M → Prop} {q : Nat} {x2 : Int32} {x3 : Int32} {x4 : Int32} {x5 : Int32} {o6 : Option ab_V} (hq : sh0[q]? = some (.inl (1, [some (some (q + 1)), some (some (q + 2)), none]))) (hq1 : sh0[q + 1]? = some (.inr (.inl (0, 60)))) (hq2 : sh0[q + 2]? = some (.inr (.inl (2, 3))))
    (k : ((x5 < 0 → (((σ 42 5) = 0 → Q (some (.inl 1)) σ) ∧ (¬ (σ 42 5) = 0 → Q (some (.inl 0)) σ))) ∧ (¬ x5 < 0 → evm mX1_codeAt [.inr (.inr q), .inl x5] σ (fun v τ1 => ∃ r2 : Int32, v = some (.inl r2) ∧ evm mX7_isVariable [.inl r2] τ1 (fun v τ3 => ∃ r4 : Int32, v = some (.inl r4) ∧ ((r4 = 0 → ((r2 = 11 → evm mX3_pop [.inr (.inr 42)] τ3 (fun v τ5 => ∃ r6 : Int32, v = some (.inl r6) ∧ evm mX3_pop [.inr (.inr 42)] τ5 (fun v τ7 => ∃ r8 : Int32, v = some (.inl r8) ∧ ((r6 = r8 → ev mX3_isBroken 34 [some (.inr (.inr 42)), some (.inr (.inr q)), some (.inl x2), some (.inl x3), some (.inl x4), some (.inl (x5 + (-1))), some (.inl r2)] [] (ab_upd τ7 42 5 1) Q) ∧ (¬ r6 = r8 → ev mX3_isBroken 34 [some (.inr (.inr 42)), some (.inr (.inr q)), some (.inl x2), some (.inl x3), some (.inl x4), some (.inl (x5 + (-1))), some (.inl r2)] [] (ab_upd τ7 42 5 0) Q))))) ∧ (¬ r2 = 11 → ((r2 = 12 → (((τ3 42 5) = 0 → ev mX3_isBroken 34 [some (.inr (.inr 42)), some (.inr (.inr q)), some (.inl x2), some (.inl x3), some (.inl x4), some (.inl (x5 + (-1))), some (.inl r2)] [] (ab_upd τ3 42 5 1) Q) ∧ (¬ (τ3 42 5) = 0 → ev mX3_isBroken 34 [some (.inr (.inr 42)), some (.inr (.inr q)), some (.inl x2), some (.inl x3), some (.inl x4), some (.inl (x5 + (-1))), some (.inl r2)] [] (ab_upd τ3 42 5 0) Q))) ∧ (¬ r2 = 12 → ((r2 = 13 → (((τ3 42 5) = 0 → ev mX3_isBroken 34 [some (.inr (.inr 42)), some (.inr (.inr q)), some (.inl x2), some (.inl x3), some (.inl x4), some (.inl (x5 + (-1))), some (.inl r2)] [] τ3 Q) ∧ (¬ (τ3 42 5) = 0 → Q (some (.inl 0)) τ3))) ∧ (¬ r2 = 13 → evm mX3_readCell [.inr (.inr 42), .inl r2] τ3 (fun v τ5 => ∃ r6 : Int32, v = some (.inl r6) ∧ ((r6 = 0 → Q (some (.inl 0)) τ5) ∧ (¬ r6 = 0 → ev mX3_isBroken 34 [some (.inr (.inr 42)), some (.inr (.inr q)), some (.inl x2), some (.inl x3), some (.inl x4), some (.inl (x5 + (-1))), some (.inl r2)] [] τ5 Q)))))))))) ∧ (¬ r4 = 0 → ab_in (r2 - 8) 3 = true ∧ evm mX3_push [.inr (.inr 42), .inl (τ3 43 (r2 - 8).toNatClampNeg)] τ3 (fun v τ5 => v = none ∧ ev mX3_isBroken 34 [some (.inr (.inr 42)), some (.inr (.inr q)), some (.inl x2), some (.inl x3), some (.inl x4), some (.inl (x5 + (-1))), some (.inl r2)] [] τ5 Q)))))))) :
    ev mX3_isBroken 34 [some (.inr (.inr 42)), some (.inr (.inr q)), some (.inl x2), some (.inl x3), some (.inl x4), some (.inl x5), o6] [] σ Q := by
  refine ev_p (pc' := 36) (ls' := [some (.inr (.inr 42)), some (.inr (.inr q)), some (.inl x2), some (.inl x3), some (.inl x4), some (.inl x5), o6]) (st' := [.inl x5]) dX3_isBroken_34 rfl ?_
  refine ev_if_lt (tgt := 161) (pc' := 39) dX3_isBroken_36 (by decide) rfl (fun h1 => ?_) (fun h1 => ?_)
  · have k := k.1 h1
    refine ev_p (pc' := 162) (ls' := [some (.inr (.inr 42)), some (.inr (.inr q)), some (.inl x2), some (.inl x3), some (.inl x4), some (.inl x5), o6]) (st' := [.inr (.inr 42)]) dX3_isBroken_161 rfl ?_
    refine ev_getI (pc' := 165) dX3_isBroken_162 rfl rfl rfl rfl ?_
    refine ev_if_ne (tgt := 172) (pc' := 168) dX3_isBroken_165 (by decide) rfl (fun h2 => ?_) (fun h2 => ?_)
    · have k := k.2 h2
      refine ev_cst (v := 0) (pc' := 173) dX3_isBroken_172 (by decide) rfl ?_
      exact ev_retZ dX3_isBroken_173 rfl rfl k
    · have k := k.1 h2
      refine ev_cst (v := 1) (pc' := 169) dX3_isBroken_168 (by decide) rfl ?_
      refine ev_go (tgt := 173) dX3_isBroken_169 (by decide) ?_
      exact ev_retZ dX3_isBroken_173 rfl rfl k
  · have k := k.2 h1
    refine ev_p (pc' := 40) (ls' := [some (.inr (.inr 42)), some (.inr (.inr q)), some (.inl x2), some (.inl x3), some (.inl x4), some (.inl x5), o6]) (st' := [.inr (.inr q)]) dX3_isBroken_39 rfl ?_
    refine ev_p (pc' := 42) (ls' := [some (.inr (.inr 42)), some (.inr (.inr q)), some (.inl x2), some (.inl x3), some (.inl x4), some (.inl x5), o6]) (st' := [.inl x5, .inr (.inr q)]) dX3_isBroken_40 rfl ?_
    refine ev_call (y := 55) (as := [.inr (.inr q), .inl x5]) (r := []) (M' := mX1_codeAt) (pc' := 45) dX3_isBroken_42 (ev_inv1 rfl rfl rfl rfl hq rfl rfl) rfl ⟨rfl, rfl⟩ rfl k rfl (fun v τ1 hq => ?_)
    obtain ⟨r2, hv, k⟩ := hq
    rw [hv]
    change ev mX3_isBroken 45 [some (.inr (.inr 42)), some (.inr (.inr q)), some (.inl x2), some (.inl x3), some (.inl x4), some (.inl x5), o6] [.inl r2] τ1 _
    refine ev_p (pc' := 47) (ls' := [some (.inr (.inr 42)), some (.inr (.inr q)), some (.inl x2), some (.inl x3), some (.inl x4), some (.inl x5), some (.inl r2)]) (st' := []) dX3_isBroken_45 rfl ?_
    refine ev_p (pc' := 49) (ls' := [some (.inr (.inr 42)), some (.inr (.inr q)), some (.inl x2), some (.inl x3), some (.inl x4), some (.inl x5), some (.inl r2)]) (st' := [.inl r2]) dX3_isBroken_47 rfl ?_
    refine ev_call (y := 31) (as := [.inl r2]) (r := []) (M' := mX7_isVariable) (pc' := 52) dX3_isBroken_49 rfl rfl ⟨rfl, rfl⟩ rfl k rfl (fun v τ3 hq => ?_)
    obtain ⟨r4, hv, k⟩ := hq
    rw [hv]
    change ev mX3_isBroken 52 [some (.inr (.inr 42)), some (.inr (.inr q)), some (.inl x2), some (.inl x3), some (.inl x4), some (.inl x5), some (.inl r2)] [.inl r4] τ3 _
    refine ev_if_eq (tgt := 72) (pc' := 55) dX3_isBroken_52 (by decide) rfl (fun h3 => ?_) (fun h3 => ?_)
    · have k := k.1 h3
      refine ev_p (pc' := 74) (ls' := [some (.inr (.inr 42)), some (.inr (.inr q)), some (.inl x2), some (.inl x3), some (.inl x4), some (.inl x5), some (.inl r2)]) (st' := [.inl r2]) dX3_isBroken_72 rfl ?_
      refine ev_cst (v := 11) (pc' := 76) dX3_isBroken_74 (by decide) rfl ?_
      refine ev_ic_ne (tgt := 102) (pc' := 79) dX3_isBroken_76 (by decide) rfl (fun h4 => ?_) (fun h4 => ?_)
      · have k := k.2 h4
        refine ev_p (pc' := 104) (ls' := [some (.inr (.inr 42)), some (.inr (.inr q)), some (.inl x2), some (.inl x3), some (.inl x4), some (.inl x5), some (.inl r2)]) (st' := [.inl r2]) dX3_isBroken_102 rfl ?_
        refine ev_cst (v := 12) (pc' := 106) dX3_isBroken_104 (by decide) rfl ?_
        refine ev_ic_ne (tgt := 128) (pc' := 109) dX3_isBroken_106 (by decide) rfl (fun h5 => ?_) (fun h5 => ?_)
        · have k := k.2 h5
          refine ev_p (pc' := 130) (ls' := [some (.inr (.inr 42)), some (.inr (.inr q)), some (.inl x2), some (.inl x3), some (.inl x4), some (.inl x5), some (.inl r2)]) (st' := [.inl r2]) dX3_isBroken_128 rfl ?_
          refine ev_cst (v := 13) (pc' := 132) dX3_isBroken_130 (by decide) rfl ?_
          refine ev_ic_ne (tgt := 144) (pc' := 135) dX3_isBroken_132 (by decide) rfl (fun h6 => ?_) (fun h6 => ?_)
          · have k := k.2 h6
            refine ev_p (pc' := 145) (ls' := [some (.inr (.inr 42)), some (.inr (.inr q)), some (.inl x2), some (.inl x3), some (.inl x4), some (.inl x5), some (.inl r2)]) (st' := [.inr (.inr 42)]) dX3_isBroken_144 rfl ?_
            refine ev_p (pc' := 147) (ls' := [some (.inr (.inr 42)), some (.inr (.inr q)), some (.inl x2), some (.inl x3), some (.inl x4), some (.inl x5), some (.inl r2)]) (st' := [.inl r2, .inr (.inr 42)]) dX3_isBroken_145 rfl ?_
            refine ev_call (y := 58) (as := [.inr (.inr 42), .inl r2]) (r := []) (M' := mX3_readCell) (pc' := 150) dX3_isBroken_147 rfl rfl ⟨rfl, rfl⟩ rfl k rfl (fun v τ5 hq => ?_)
            obtain ⟨r6, hv, k⟩ := hq
            rw [hv]
            change ev mX3_isBroken 150 [some (.inr (.inr 42)), some (.inr (.inr q)), some (.inl x2), some (.inl x3), some (.inl x4), some (.inl x5), some (.inl r2)] [.inl r6] τ5 _
            refine ev_if_ne (tgt := 155) (pc' := 153) dX3_isBroken_150 (by decide) rfl (fun h7 => ?_) (fun h7 => ?_)
            · have k := k.2 h7
              refine ev_p (pc' := 158) (ls' := [some (.inr (.inr 42)), some (.inr (.inr q)), some (.inl x2), some (.inl x3), some (.inl x4), some (.inl (x5 + (-1))), some (.inl r2)]) (st' := []) dX3_isBroken_155 rfl ?_
              refine ev_go (tgt := 34) dX3_isBroken_158 (by decide) ?_
              exact k
            · have k := k.1 h7
              refine ev_cst (v := 0) (pc' := 154) dX3_isBroken_153 (by decide) rfl ?_
              exact ev_retZ dX3_isBroken_154 rfl rfl k
          · have k := k.1 h6
            refine ev_p (pc' := 136) (ls' := [some (.inr (.inr 42)), some (.inr (.inr q)), some (.inl x2), some (.inl x3), some (.inl x4), some (.inl x5), some (.inl r2)]) (st' := [.inr (.inr 42)]) dX3_isBroken_135 rfl ?_
            refine ev_getI (pc' := 139) dX3_isBroken_136 rfl rfl rfl rfl ?_
            refine ev_if_eq (tgt := 155) (pc' := 142) dX3_isBroken_139 (by decide) rfl (fun h8 => ?_) (fun h8 => ?_)
            · have k := k.1 h8
              refine ev_p (pc' := 158) (ls' := [some (.inr (.inr 42)), some (.inr (.inr q)), some (.inl x2), some (.inl x3), some (.inl x4), some (.inl (x5 + (-1))), some (.inl r2)]) (st' := []) dX3_isBroken_155 rfl ?_
              refine ev_go (tgt := 34) dX3_isBroken_158 (by decide) ?_
              exact k
            · have k := k.2 h8
              refine ev_cst (v := 0) (pc' := 143) dX3_isBroken_142 (by decide) rfl ?_
              exact ev_retZ dX3_isBroken_143 rfl rfl k
        · have k := k.1 h5
          refine ev_p (pc' := 110) (ls' := [some (.inr (.inr 42)), some (.inr (.inr q)), some (.inl x2), some (.inl x3), some (.inl x4), some (.inl x5), some (.inl r2)]) (st' := [.inr (.inr 42)]) dX3_isBroken_109 rfl ?_
          refine ev_p (pc' := 111) (ls' := [some (.inr (.inr 42)), some (.inr (.inr q)), some (.inl x2), some (.inl x3), some (.inl x4), some (.inl x5), some (.inl r2)]) (st' := [.inr (.inr 42), .inr (.inr 42)]) dX3_isBroken_110 rfl ?_
          refine ev_getI (pc' := 114) dX3_isBroken_111 rfl rfl rfl rfl ?_
          refine ev_if_ne (tgt := 121) (pc' := 117) dX3_isBroken_114 (by decide) rfl (fun h9 => ?_) (fun h9 => ?_)
          · have k := k.2 h9
            refine ev_cst (v := 0) (pc' := 122) dX3_isBroken_121 (by decide) rfl ?_
            refine ev_putI (pc' := 125) dX3_isBroken_122 rfl rfl rfl rfl rfl rfl ?_
            refine ev_go (tgt := 155) dX3_isBroken_125 (by decide) ?_
            refine ev_p (pc' := 158) (ls' := [some (.inr (.inr 42)), some (.inr (.inr q)), some (.inl x2), some (.inl x3), some (.inl x4), some (.inl (x5 + (-1))), some (.inl r2)]) (st' := []) dX3_isBroken_155 rfl ?_
            refine ev_go (tgt := 34) dX3_isBroken_158 (by decide) ?_
            exact k
          · have k := k.1 h9
            refine ev_cst (v := 1) (pc' := 118) dX3_isBroken_117 (by decide) rfl ?_
            refine ev_go (tgt := 122) dX3_isBroken_118 (by decide) ?_
            refine ev_putI (pc' := 125) dX3_isBroken_122 rfl rfl rfl rfl rfl rfl ?_
            refine ev_go (tgt := 155) dX3_isBroken_125 (by decide) ?_
            refine ev_p (pc' := 158) (ls' := [some (.inr (.inr 42)), some (.inr (.inr q)), some (.inl x2), some (.inl x3), some (.inl x4), some (.inl (x5 + (-1))), some (.inl r2)]) (st' := []) dX3_isBroken_155 rfl ?_
            refine ev_go (tgt := 34) dX3_isBroken_158 (by decide) ?_
            exact k
      · have k := k.1 h4
        refine ev_p (pc' := 80) (ls' := [some (.inr (.inr 42)), some (.inr (.inr q)), some (.inl x2), some (.inl x3), some (.inl x4), some (.inl x5), some (.inl r2)]) (st' := [.inr (.inr 42)]) dX3_isBroken_79 rfl ?_
        refine ev_p (pc' := 81) (ls' := [some (.inr (.inr 42)), some (.inr (.inr q)), some (.inl x2), some (.inl x3), some (.inl x4), some (.inl x5), some (.inl r2)]) (st' := [.inr (.inr 42), .inr (.inr 42)]) dX3_isBroken_80 rfl ?_
        refine ev_call (y := 57) (as := [.inr (.inr 42)]) (r := [.inr (.inr 42)]) (M' := mX3_pop) (pc' := 84) dX3_isBroken_81 rfl rfl ⟨rfl, rfl⟩ rfl k rfl (fun v τ5 hq => ?_)
        obtain ⟨r6, hv, k⟩ := hq
        rw [hv]
        change ev mX3_isBroken 84 [some (.inr (.inr 42)), some (.inr (.inr q)), some (.inl x2), some (.inl x3), some (.inl x4), some (.inl x5), some (.inl r2)] [.inl r6, .inr (.inr 42)] τ5 _
        refine ev_p (pc' := 85) (ls' := [some (.inr (.inr 42)), some (.inr (.inr q)), some (.inl x2), some (.inl x3), some (.inl x4), some (.inl x5), some (.inl r2)]) (st' := [.inr (.inr 42), .inl r6, .inr (.inr 42)]) dX3_isBroken_84 rfl ?_
        refine ev_call (y := 57) (as := [.inr (.inr 42)]) (r := [.inl r6, .inr (.inr 42)]) (M' := mX3_pop) (pc' := 88) dX3_isBroken_85 rfl rfl ⟨rfl, rfl⟩ rfl k rfl (fun v τ7 hq => ?_)
        obtain ⟨r8, hv, k⟩ := hq
        rw [hv]
        change ev mX3_isBroken 88 [some (.inr (.inr 42)), some (.inr (.inr q)), some (.inl x2), some (.inl x3), some (.inl x4), some (.inl x5), some (.inl r2)] [.inl r8, .inl r6, .inr (.inr 42)] τ7 _
        refine ev_ic_ne (tgt := 95) (pc' := 91) dX3_isBroken_88 (by decide) rfl (fun h10 => ?_) (fun h10 => ?_)
        · have k := k.2 h10
          refine ev_cst (v := 0) (pc' := 96) dX3_isBroken_95 (by decide) rfl ?_
          refine ev_putI (pc' := 99) dX3_isBroken_96 rfl rfl rfl rfl rfl rfl ?_
          refine ev_go (tgt := 155) dX3_isBroken_99 (by decide) ?_
          refine ev_p (pc' := 158) (ls' := [some (.inr (.inr 42)), some (.inr (.inr q)), some (.inl x2), some (.inl x3), some (.inl x4), some (.inl (x5 + (-1))), some (.inl r2)]) (st' := []) dX3_isBroken_155 rfl ?_
          refine ev_go (tgt := 34) dX3_isBroken_158 (by decide) ?_
          exact k
        · have k := k.1 h10
          refine ev_cst (v := 1) (pc' := 92) dX3_isBroken_91 (by decide) rfl ?_
          refine ev_go (tgt := 96) dX3_isBroken_92 (by decide) ?_
          refine ev_putI (pc' := 99) dX3_isBroken_96 rfl rfl rfl rfl rfl rfl ?_
          refine ev_go (tgt := 155) dX3_isBroken_99 (by decide) ?_
          refine ev_p (pc' := 158) (ls' := [some (.inr (.inr 42)), some (.inr (.inr q)), some (.inl x2), some (.inl x3), some (.inl x4), some (.inl (x5 + (-1))), some (.inl r2)]) (st' := []) dX3_isBroken_155 rfl ?_
          refine ev_go (tgt := 34) dX3_isBroken_158 (by decide) ?_
          exact k
    · have k := k.2 h3
      refine ev_p (pc' := 56) (ls' := [some (.inr (.inr 42)), some (.inr (.inr q)), some (.inl x2), some (.inl x3), some (.inl x4), some (.inl x5), some (.inl r2)]) (st' := [.inr (.inr 42)]) dX3_isBroken_55 rfl ?_
      refine ev_p (pc' := 57) (ls' := [some (.inr (.inr 42)), some (.inr (.inr q)), some (.inl x2), some (.inl x3), some (.inl x4), some (.inl x5), some (.inl r2)]) (st' := [.inr (.inr 42), .inr (.inr 42)]) dX3_isBroken_56 rfl ?_
      refine ev_getA (pc' := 60) (z := 43) dX3_isBroken_57 rfl rfl rfl rfl ?_
      refine ev_p (pc' := 62) (ls' := [some (.inr (.inr 42)), some (.inr (.inr q)), some (.inl x2), some (.inl x3), some (.inl x4), some (.inl x5), some (.inl r2)]) (st' := [.inl r2, .inr (.inr 43), .inr (.inr 42)]) dX3_isBroken_60 rfl ?_
      refine ev_cst (v := 8) (pc' := 64) dX3_isBroken_62 (by decide) rfl ?_
      refine ev_p (pc' := 65) (ls' := [some (.inr (.inr 42)), some (.inr (.inr q)), some (.inl x2), some (.inl x3), some (.inl x4), some (.inl x5), some (.inl r2)]) (st' := [.inl (r2 - 8), .inr (.inr 43), .inr (.inr 42)]) dX3_isBroken_64 rfl ?_
      refine ev_load (pc' := 66) rfl dX3_isBroken_65 rfl rfl k.1 rfl ?_
      have k := k.2
      refine ev_call (y := 56) (as := [.inr (.inr 42), .inl (τ3 43 (r2 - 8).toNatClampNeg)]) (r := []) (M' := mX3_push) (pc' := 69) dX3_isBroken_66 rfl rfl ⟨rfl, rfl⟩ rfl k rfl (fun v τ5 hq => ?_)
      obtain ⟨hv, k⟩ := hq
      rw [hv]
      change ev mX3_isBroken 69 [some (.inr (.inr 42)), some (.inr (.inr q)), some (.inl x2), some (.inl x3), some (.inl x4), some (.inl x5), some (.inl r2)] [] τ5 _
      refine ev_go (tgt := 155) dX3_isBroken_69 (by decide) ?_
      refine ev_p (pc' := 158) (ls' := [some (.inr (.inr 42)), some (.inr (.inr q)), some (.inl x2), some (.inl x3), some (.inl x4), some (.inl (x5 + (-1))), some (.inl r2)]) (st' := []) dX3_isBroken_155 rfl ?_
      refine ev_go (tgt := 34) dX3_isBroken_158 (by decide) ?_
      exact k
set_option maxRecDepth 20000 in
theorem s_X3_push_0 {σ : ab_M} {Q : Option ab_V → ab_M → Prop} {x1 : Int32}
    (k : ((60 ≤ (σ 42 4) → Q none σ) ∧ (¬ 60 ≤ (σ 42 4) → ab_in (σ 42 4) 60 = true ∧ Q none (ab_upd (ab_upd σ 44 (σ 42 4).toNatClampNeg x1) 42 4 (((ab_upd σ 44 (σ 42 4).toNatClampNeg x1) 42 4) + 1))))) :
    ev mX3_push 0 [some (.inr (.inr 42)), some (.inl x1)] [] σ Q := by
  refine ev_p (pc' := 1) (ls' := [some (.inr (.inr 42)), some (.inl x1)]) (st' := [.inr (.inr 42)]) dX3_push_0 rfl ?_
  refine ev_getI (pc' := 4) dX3_push_1 rfl rfl rfl rfl ?_
  refine ev_cst (v := 60) (pc' := 6) dX3_push_4 (by decide) rfl ?_
  refine ev_ic_ge (tgt := 29) (pc' := 9) dX3_push_6 (by decide) rfl (fun h1 => ?_) (fun h1 => ?_)
  · have k := k.1 h1
    exact ev_ret dX3_push_29 rfl k
  · have k := k.2 h1
    refine ev_p (pc' := 10) (ls' := [some (.inr (.inr 42)), some (.inl x1)]) (st' := [.inr (.inr 42)]) dX3_push_9 rfl ?_
    refine ev_getA (pc' := 13) (z := 44) dX3_push_10 rfl rfl rfl rfl ?_
    refine ev_p (pc' := 14) (ls' := [some (.inr (.inr 42)), some (.inl x1)]) (st' := [.inr (.inr 42), .inr (.inr 44)]) dX3_push_13 rfl ?_
    refine ev_getI (pc' := 17) dX3_push_14 rfl rfl rfl rfl ?_
    refine ev_p (pc' := 18) (ls' := [some (.inr (.inr 42)), some (.inl x1)]) (st' := [.inl x1, .inl (σ 42 4), .inr (.inr 44)]) dX3_push_17 rfl ?_
    refine ev_stor (pc' := 19) (z := x1) rfl dX3_push_18 rfl rfl k.1 rfl rfl ?_
    have k := k.2
    refine ev_p (pc' := 20) (ls' := [some (.inr (.inr 42)), some (.inl x1)]) (st' := [.inr (.inr 42)]) dX3_push_19 rfl ?_
    refine ev_p (pc' := 21) (ls' := [some (.inr (.inr 42)), some (.inl x1)]) (st' := [.inr (.inr 42), .inr (.inr 42)]) dX3_push_20 rfl ?_
    refine ev_getI (pc' := 24) dX3_push_21 rfl rfl rfl rfl ?_
    refine ev_cst (v := 1) (pc' := 25) dX3_push_24 (by decide) rfl ?_
    refine ev_p (pc' := 26) (ls' := [some (.inr (.inr 42)), some (.inl x1)]) (st' := [.inl (((ab_upd σ 44 (σ 42 4).toNatClampNeg x1) 42 4) + 1), .inr (.inr 42)]) dX3_push_25 rfl ?_
    refine ev_putI (pc' := 29) dX3_push_26 rfl rfl rfl rfl rfl rfl ?_
    exact ev_ret dX3_push_29 rfl k
set_option maxRecDepth 20000 in
theorem s_X3_pop_0 {σ : ab_M} {Q : Option ab_V → ab_M → Prop} 
    (k : (((σ 42 4) ≤ 0 → ab_in (σ 42 4) 60 = true ∧ Q (some (.inl (σ 44 (σ 42 4).toNatClampNeg))) σ) ∧ (¬ (σ 42 4) ≤ 0 → ab_in ((ab_upd σ 42 4 ((σ 42 4) - 1)) 42 4) 60 = true ∧ Q (some (.inl ((ab_upd σ 42 4 ((σ 42 4) - 1)) 44 ((ab_upd σ 42 4 ((σ 42 4) - 1)) 42 4).toNatClampNeg))) (ab_upd σ 42 4 ((σ 42 4) - 1))))) :
    ev mX3_pop 0 [some (.inr (.inr 42))] [] σ Q := by
  refine ev_p (pc' := 1) (ls' := [some (.inr (.inr 42))]) (st' := [.inr (.inr 42)]) dX3_pop_0 rfl ?_
  refine ev_getI (pc' := 4) dX3_pop_1 rfl rfl rfl rfl ?_
  refine ev_if_le (tgt := 17) (pc' := 7) dX3_pop_4 (by decide) rfl (fun h1 => ?_) (fun h1 => ?_)
  · have k := k.1 h1
    refine ev_p (pc' := 18) (ls' := [some (.inr (.inr 42))]) (st' := [.inr (.inr 42)]) dX3_pop_17 rfl ?_
    refine ev_getA (pc' := 21) (z := 44) dX3_pop_18 rfl rfl rfl rfl ?_
    refine ev_p (pc' := 22) (ls' := [some (.inr (.inr 42))]) (st' := [.inr (.inr 42), .inr (.inr 44)]) dX3_pop_21 rfl ?_
    refine ev_getI (pc' := 25) dX3_pop_22 rfl rfl rfl rfl ?_
    refine ev_load (pc' := 26) rfl dX3_pop_25 rfl rfl k.1 rfl ?_
    have k := k.2
    exact ev_ret dX3_pop_26 rfl k
  · have k := k.2 h1
    refine ev_p (pc' := 8) (ls' := [some (.inr (.inr 42))]) (st' := [.inr (.inr 42)]) dX3_pop_7 rfl ?_
    refine ev_p (pc' := 9) (ls' := [some (.inr (.inr 42))]) (st' := [.inr (.inr 42), .inr (.inr 42)]) dX3_pop_8 rfl ?_
    refine ev_getI (pc' := 12) dX3_pop_9 rfl rfl rfl rfl ?_
    refine ev_cst (v := 1) (pc' := 13) dX3_pop_12 (by decide) rfl ?_
    refine ev_p (pc' := 14) (ls' := [some (.inr (.inr 42))]) (st' := [.inl ((σ 42 4) - 1), .inr (.inr 42)]) dX3_pop_13 rfl ?_
    refine ev_putI (pc' := 17) dX3_pop_14 rfl rfl rfl rfl rfl rfl ?_
    refine ev_p (pc' := 18) (ls' := [some (.inr (.inr 42))]) (st' := [.inr (.inr 42)]) dX3_pop_17 rfl ?_
    refine ev_getA (pc' := 21) (z := 44) dX3_pop_18 rfl rfl rfl rfl ?_
    refine ev_p (pc' := 22) (ls' := [some (.inr (.inr 42))]) (st' := [.inr (.inr 42), .inr (.inr 44)]) dX3_pop_21 rfl ?_
    refine ev_getI (pc' := 25) dX3_pop_22 rfl rfl rfl rfl ?_
    refine ev_load (pc' := 26) rfl dX3_pop_25 rfl rfl k.1 rfl ?_
    have k := k.2
    exact ev_ret dX3_pop_26 rfl k
set_option maxRecDepth 20000 in
theorem s_X3_readCell_0 {σ : ab_M} {Q : Option ab_V → ab_M → Prop} {x1 : Int32}
    (k : evm mX5_arityOf [.inr (.inr 1), .inl x1] σ (fun v τ1 => ∃ r2 : Int32, v = some (.inl r2) ∧ ((r2 < 1 → ((r2 < 2 → evm mX6_cellOf [.inl x1, .inl 0, .inl 0] τ1 (fun v τ3 => ∃ r4 : Int32, v = some (.inl r4) ∧ evm mX6_rankOf [.inr (.inr 37), .inl r4] τ3 (fun v τ5 => ∃ r6 : Int32, v = some (.inl r6) ∧ evm mX6_valueOf [.inr (.inr 37), .inl r4] τ5 (fun v τ7 => ∃ r8 : Int32, v = some (.inl r8) ∧ ((r8 = (-1) → Q (some (.inl 0)) (ab_upd τ7 42 7 r6)) ∧ (¬ r8 = (-1) → evm mX7_isPredicate [.inl x1] (ab_upd τ7 42 6 (ab_mm true (τ7 42 6) r6)) (fun v τ9 => ∃ r10 : Int32, v = some (.inl r10) ∧ ((r10 = 0 → evm mX3_push [.inr (.inr 42), .inl r8] τ9 (fun v τ11 => v = none ∧ Q (some (.inl 1)) τ11)) ∧ (¬ r10 = 0 → ((r8 = 1 → Q (some (.inl 1)) (ab_upd τ9 42 5 1)) ∧ (¬ r8 = 1 → Q (some (.inl 1)) (ab_upd τ9 42 5 0)))))))))))) ∧ (¬ r2 < 2 → evm mX3_pop [.inr (.inr 42)] τ1 (fun v τ3 => ∃ r4 : Int32, v = some (.inl r4) ∧ evm mX6_cellOf [.inl x1, .inl 0, .inl r4] τ3 (fun v τ5 => ∃ r6 : Int32, v = some (.inl r6) ∧ evm mX6_rankOf [.inr (.inr 37), .inl r6] τ5 (fun v τ7 => ∃ r8 : Int32, v = some (.inl r8) ∧ evm mX6_valueOf [.inr (.inr 37), .inl r6] τ7 (fun v τ9 => ∃ r10 : Int32, v = some (.inl r10) ∧ ((r10 = (-1) → Q (some (.inl 0)) (ab_upd τ9 42 7 r8)) ∧ (¬ r10 = (-1) → evm mX7_isPredicate [.inl x1] (ab_upd τ9 42 6 (ab_mm true (τ9 42 6) r8)) (fun v τ11 => ∃ r12 : Int32, v = some (.inl r12) ∧ ((r12 = 0 → evm mX3_push [.inr (.inr 42), .inl r10] τ11 (fun v τ13 => v = none ∧ Q (some (.inl 1)) τ13)) ∧ (¬ r12 = 0 → ((r10 = 1 → Q (some (.inl 1)) (ab_upd τ11 42 5 1)) ∧ (¬ r10 = 1 → Q (some (.inl 1)) (ab_upd τ11 42 5 0))))))))))))))) ∧ (¬ r2 < 1 → evm mX3_pop [.inr (.inr 42)] τ1 (fun v τ3 => ∃ r4 : Int32, v = some (.inl r4) ∧ ((r2 < 2 → evm mX6_cellOf [.inl x1, .inl r4, .inl 0] τ3 (fun v τ5 => ∃ r6 : Int32, v = some (.inl r6) ∧ evm mX6_rankOf [.inr (.inr 37), .inl r6] τ5 (fun v τ7 => ∃ r8 : Int32, v = some (.inl r8) ∧ evm mX6_valueOf [.inr (.inr 37), .inl r6] τ7 (fun v τ9 => ∃ r10 : Int32, v = some (.inl r10) ∧ ((r10 = (-1) → Q (some (.inl 0)) (ab_upd τ9 42 7 r8)) ∧ (¬ r10 = (-1) → evm mX7_isPredicate [.inl x1] (ab_upd τ9 42 6 (ab_mm true (τ9 42 6) r8)) (fun v τ11 => ∃ r12 : Int32, v = some (.inl r12) ∧ ((r12 = 0 → evm mX3_push [.inr (.inr 42), .inl r10] τ11 (fun v τ13 => v = none ∧ Q (some (.inl 1)) τ13)) ∧ (¬ r12 = 0 → ((r10 = 1 → Q (some (.inl 1)) (ab_upd τ11 42 5 1)) ∧ (¬ r10 = 1 → Q (some (.inl 1)) (ab_upd τ11 42 5 0)))))))))))) ∧ (¬ r2 < 2 → evm mX3_pop [.inr (.inr 42)] τ3 (fun v τ5 => ∃ r6 : Int32, v = some (.inl r6) ∧ evm mX6_cellOf [.inl x1, .inl r4, .inl r6] τ5 (fun v τ7 => ∃ r8 : Int32, v = some (.inl r8) ∧ evm mX6_rankOf [.inr (.inr 37), .inl r8] τ7 (fun v τ9 => ∃ r10 : Int32, v = some (.inl r10) ∧ evm mX6_valueOf [.inr (.inr 37), .inl r8] τ9 (fun v τ11 => ∃ r12 : Int32, v = some (.inl r12) ∧ ((r12 = (-1) → Q (some (.inl 0)) (ab_upd τ11 42 7 r10)) ∧ (¬ r12 = (-1) → evm mX7_isPredicate [.inl x1] (ab_upd τ11 42 6 (ab_mm true (τ11 42 6) r10)) (fun v τ13 => ∃ r14 : Int32, v = some (.inl r14) ∧ ((r14 = 0 → evm mX3_push [.inr (.inr 42), .inl r12] τ13 (fun v τ15 => v = none ∧ Q (some (.inl 1)) τ15)) ∧ (¬ r14 = 0 → ((r12 = 1 → Q (some (.inl 1)) (ab_upd τ13 42 5 1)) ∧ (¬ r12 = 1 → Q (some (.inl 1)) (ab_upd τ13 42 5 0))))))))))))))))))) :
    ev mX3_readCell 0 [some (.inr (.inr 42)), some (.inl x1), none, none, none, none, none, none] [] σ Q := by
  refine ev_p (pc' := 1) (ls' := [some (.inr (.inr 42)), some (.inl x1), none, none, none, none, none, none]) (st' := [.inr (.inr 42)]) dX3_readCell_0 rfl ?_
  refine ev_getA (pc' := 4) (z := 1) dX3_readCell_1 rfl rfl rfl rfl ?_
  refine ev_p (pc' := 5) (ls' := [some (.inr (.inr 42)), some (.inl x1), none, none, none, none, none, none]) (st' := [.inl x1, .inr (.inr 1)]) dX3_readCell_4 rfl ?_
  refine ev_call (y := 29) (as := [.inr (.inr 1), .inl x1]) (r := []) (M' := mX5_arityOf) (pc' := 8) dX3_readCell_5 rfl rfl ⟨rfl, rfl⟩ rfl k rfl (fun v τ1 hq => ?_)
  obtain ⟨r2, hv, k⟩ := hq
  rw [hv]
  change ev mX3_readCell 8 [some (.inr (.inr 42)), some (.inl x1), none, none, none, none, none, none] [.inl r2] τ1 _
  refine ev_p (pc' := 9) (ls' := [some (.inr (.inr 42)), some (.inl x1), some (.inl r2), none, none, none, none, none]) (st' := []) dX3_readCell_8 rfl ?_
  refine ev_p (pc' := 10) (ls' := [some (.inr (.inr 42)), some (.inl x1), some (.inl r2), none, none, none, none, none]) (st' := [.inl r2]) dX3_readCell_9 rfl ?_
  refine ev_cst (v := 1) (pc' := 11) dX3_readCell_10 (by decide) rfl ?_
  refine ev_ic_lt (tgt := 21) (pc' := 14) dX3_readCell_11 (by decide) rfl (fun h1 => ?_) (fun h1 => ?_)
  · have k := k.1 h1
    refine ev_cst (v := 0) (pc' := 22) dX3_readCell_21 (by decide) rfl ?_
    refine ev_p (pc' := 23) (ls' := [some (.inr (.inr 42)), some (.inl x1), some (.inl r2), some (.inl 0), none, none, none, none]) (st' := []) dX3_readCell_22 rfl ?_
    refine ev_p (pc' := 24) (ls' := [some (.inr (.inr 42)), some (.inl x1), some (.inl r2), some (.inl 0), none, none, none, none]) (st' := [.inl r2]) dX3_readCell_23 rfl ?_
    refine ev_cst (v := 2) (pc' := 25) dX3_readCell_24 (by decide) rfl ?_
    refine ev_ic_lt (tgt := 35) (pc' := 28) dX3_readCell_25 (by decide) rfl (fun h2 => ?_) (fun h2 => ?_)
    · have k := k.1 h2
      refine ev_cst (v := 0) (pc' := 36) dX3_readCell_35 (by decide) rfl ?_
      refine ev_p (pc' := 38) (ls' := [some (.inr (.inr 42)), some (.inl x1), some (.inl r2), some (.inl 0), some (.inl 0), none, none, none]) (st' := []) dX3_readCell_36 rfl ?_
      refine ev_p (pc' := 39) (ls' := [some (.inr (.inr 42)), some (.inl x1), some (.inl r2), some (.inl 0), some (.inl 0), none, none, none]) (st' := [.inl x1]) dX3_readCell_38 rfl ?_
      refine ev_p (pc' := 40) (ls' := [some (.inr (.inr 42)), some (.inl x1), some (.inl r2), some (.inl 0), some (.inl 0), none, none, none]) (st' := [.inl 0, .inl x1]) dX3_readCell_39 rfl ?_
      refine ev_p (pc' := 42) (ls' := [some (.inr (.inr 42)), some (.inl x1), some (.inl r2), some (.inl 0), some (.inl 0), none, none, none]) (st' := [.inl 0, .inl 0, .inl x1]) dX3_readCell_40 rfl ?_
      refine ev_call (y := 45) (as := [.inl x1, .inl 0, .inl 0]) (r := []) (M' := mX6_cellOf) (pc' := 45) dX3_readCell_42 rfl rfl ⟨rfl, rfl⟩ rfl k rfl (fun v τ3 hq => ?_)
      obtain ⟨r4, hv, k⟩ := hq
      rw [hv]
      change ev mX3_readCell 45 [some (.inr (.inr 42)), some (.inl x1), some (.inl r2), some (.inl 0), some (.inl 0), none, none, none] [.inl r4] τ3 _
      refine ev_p (pc' := 47) (ls' := [some (.inr (.inr 42)), some (.inl x1), some (.inl r2), some (.inl 0), some (.inl 0), some (.inl r4), none, none]) (st' := []) dX3_readCell_45 rfl ?_
      refine ev_p (pc' := 48) (ls' := [some (.inr (.inr 42)), some (.inl x1), some (.inl r2), some (.inl 0), some (.inl 0), some (.inl r4), none, none]) (st' := [.inr (.inr 42)]) dX3_readCell_47 rfl ?_
      refine ev_getA (pc' := 51) (z := 37) dX3_readCell_48 rfl rfl rfl rfl ?_
      refine ev_p (pc' := 53) (ls' := [some (.inr (.inr 42)), some (.inl x1), some (.inl r2), some (.inl 0), some (.inl 0), some (.inl r4), none, none]) (st' := [.inl r4, .inr (.inr 37)]) dX3_readCell_51 rfl ?_
      refine ev_call (y := 59) (as := [.inr (.inr 37), .inl r4]) (r := []) (M' := mX6_rankOf) (pc' := 56) dX3_readCell_53 rfl rfl ⟨rfl, rfl⟩ rfl k rfl (fun v τ5 hq => ?_)
      obtain ⟨r6, hv, k⟩ := hq
      rw [hv]
      change ev mX3_readCell 56 [some (.inr (.inr 42)), some (.inl x1), some (.inl r2), some (.inl 0), some (.inl 0), some (.inl r4), none, none] [.inl r6] τ5 _
      refine ev_p (pc' := 58) (ls' := [some (.inr (.inr 42)), some (.inl x1), some (.inl r2), some (.inl 0), some (.inl 0), some (.inl r4), some (.inl r6), none]) (st' := []) dX3_readCell_56 rfl ?_
      refine ev_p (pc' := 59) (ls' := [some (.inr (.inr 42)), some (.inl x1), some (.inl r2), some (.inl 0), some (.inl 0), some (.inl r4), some (.inl r6), none]) (st' := [.inr (.inr 42)]) dX3_readCell_58 rfl ?_
      refine ev_getA (pc' := 62) (z := 37) dX3_readCell_59 rfl rfl rfl rfl ?_
      refine ev_p (pc' := 64) (ls' := [some (.inr (.inr 42)), some (.inl x1), some (.inl r2), some (.inl 0), some (.inl 0), some (.inl r4), some (.inl r6), none]) (st' := [.inl r4, .inr (.inr 37)]) dX3_readCell_62 rfl ?_
      refine ev_call (y := 60) (as := [.inr (.inr 37), .inl r4]) (r := []) (M' := mX6_valueOf) (pc' := 67) dX3_readCell_64 rfl rfl ⟨rfl, rfl⟩ rfl k rfl (fun v τ7 hq => ?_)
      obtain ⟨r8, hv, k⟩ := hq
      rw [hv]
      change ev mX3_readCell 67 [some (.inr (.inr 42)), some (.inl x1), some (.inl r2), some (.inl 0), some (.inl 0), some (.inl r4), some (.inl r6), none] [.inl r8] τ7 _
      refine ev_p (pc' := 69) (ls' := [some (.inr (.inr 42)), some (.inl x1), some (.inl r2), some (.inl 0), some (.inl 0), some (.inl r4), some (.inl r6), some (.inl r8)]) (st' := []) dX3_readCell_67 rfl ?_
      refine ev_p (pc' := 71) (ls' := [some (.inr (.inr 42)), some (.inl x1), some (.inl r2), some (.inl 0), some (.inl 0), some (.inl r4), some (.inl r6), some (.inl r8)]) (st' := [.inl r8]) dX3_readCell_69 rfl ?_
      refine ev_cst (v := (-1)) (pc' := 72) dX3_readCell_71 (by decide) rfl ?_
      refine ev_ic_ne (tgt := 83) (pc' := 75) dX3_readCell_72 (by decide) rfl (fun h3 => ?_) (fun h3 => ?_)
      · have k := k.2 h3
        refine ev_p (pc' := 84) (ls' := [some (.inr (.inr 42)), some (.inl x1), some (.inl r2), some (.inl 0), some (.inl 0), some (.inl r4), some (.inl r6), some (.inl r8)]) (st' := [.inr (.inr 42)]) dX3_readCell_83 rfl ?_
        refine ev_p (pc' := 85) (ls' := [some (.inr (.inr 42)), some (.inl x1), some (.inl r2), some (.inl 0), some (.inl 0), some (.inl r4), some (.inl r6), some (.inl r8)]) (st' := [.inr (.inr 42), .inr (.inr 42)]) dX3_readCell_84 rfl ?_
        refine ev_getI (pc' := 88) dX3_readCell_85 rfl rfl rfl rfl ?_
        refine ev_p (pc' := 90) (ls' := [some (.inr (.inr 42)), some (.inl x1), some (.inl r2), some (.inl 0), some (.inl 0), some (.inl r4), some (.inl r6), some (.inl r8)]) (st' := [.inl r6, .inl (τ7 42 6), .inr (.inr 42)]) dX3_readCell_88 rfl ?_
        refine ev_mm (b := true) (pc' := 93) dX3_readCell_90 rfl rfl rfl rfl ?_
        refine ev_putI (pc' := 96) dX3_readCell_93 rfl rfl rfl rfl rfl rfl ?_
        refine ev_p (pc' := 97) (ls' := [some (.inr (.inr 42)), some (.inl x1), some (.inl r2), some (.inl 0), some (.inl 0), some (.inl r4), some (.inl r6), some (.inl r8)]) (st' := [.inl x1]) dX3_readCell_96 rfl ?_
        refine ev_call (y := 28) (as := [.inl x1]) (r := []) (M' := mX7_isPredicate) (pc' := 100) dX3_readCell_97 rfl rfl ⟨rfl, rfl⟩ rfl k rfl (fun v τ9 hq => ?_)
        obtain ⟨r10, hv, k⟩ := hq
        rw [hv]
        change ev mX3_readCell 100 [some (.inr (.inr 42)), some (.inl x1), some (.inl r2), some (.inl 0), some (.inl 0), some (.inl r4), some (.inl r6), some (.inl r8)] [.inl r10] τ9 _
        refine ev_if_eq (tgt := 121) (pc' := 103) dX3_readCell_100 (by decide) rfl (fun h4 => ?_) (fun h4 => ?_)
        · have k := k.1 h4
          refine ev_p (pc' := 122) (ls' := [some (.inr (.inr 42)), some (.inl x1), some (.inl r2), some (.inl 0), some (.inl 0), some (.inl r4), some (.inl r6), some (.inl r8)]) (st' := [.inr (.inr 42)]) dX3_readCell_121 rfl ?_
          refine ev_p (pc' := 124) (ls' := [some (.inr (.inr 42)), some (.inl x1), some (.inl r2), some (.inl 0), some (.inl 0), some (.inl r4), some (.inl r6), some (.inl r8)]) (st' := [.inl r8, .inr (.inr 42)]) dX3_readCell_122 rfl ?_
          refine ev_call (y := 56) (as := [.inr (.inr 42), .inl r8]) (r := []) (M' := mX3_push) (pc' := 127) dX3_readCell_124 rfl rfl ⟨rfl, rfl⟩ rfl k rfl (fun v τ11 hq => ?_)
          obtain ⟨hv, k⟩ := hq
          rw [hv]
          change ev mX3_readCell 127 [some (.inr (.inr 42)), some (.inl x1), some (.inl r2), some (.inl 0), some (.inl 0), some (.inl r4), some (.inl r6), some (.inl r8)] [] τ11 _
          refine ev_cst (v := 1) (pc' := 128) dX3_readCell_127 (by decide) rfl ?_
          exact ev_retZ dX3_readCell_128 rfl rfl k
        · have k := k.2 h4
          refine ev_p (pc' := 104) (ls' := [some (.inr (.inr 42)), some (.inl x1), some (.inl r2), some (.inl 0), some (.inl 0), some (.inl r4), some (.inl r6), some (.inl r8)]) (st' := [.inr (.inr 42)]) dX3_readCell_103 rfl ?_
          refine ev_p (pc' := 106) (ls' := [some (.inr (.inr 42)), some (.inl x1), some (.inl r2), some (.inl 0), some (.inl 0), some (.inl r4), some (.inl r6), some (.inl r8)]) (st' := [.inl r8, .inr (.inr 42)]) dX3_readCell_104 rfl ?_
          refine ev_cst (v := 1) (pc' := 107) dX3_readCell_106 (by decide) rfl ?_
          refine ev_ic_ne (tgt := 114) (pc' := 110) dX3_readCell_107 (by decide) rfl (fun h5 => ?_) (fun h5 => ?_)
          · have k := k.2 h5
            refine ev_cst (v := 0) (pc' := 115) dX3_readCell_114 (by decide) rfl ?_
            refine ev_putI (pc' := 118) dX3_readCell_115 rfl rfl rfl rfl rfl rfl ?_
            refine ev_go (tgt := 127) dX3_readCell_118 (by decide) ?_
            refine ev_cst (v := 1) (pc' := 128) dX3_readCell_127 (by decide) rfl ?_
            exact ev_retZ dX3_readCell_128 rfl rfl k
          · have k := k.1 h5
            refine ev_cst (v := 1) (pc' := 111) dX3_readCell_110 (by decide) rfl ?_
            refine ev_go (tgt := 115) dX3_readCell_111 (by decide) ?_
            refine ev_putI (pc' := 118) dX3_readCell_115 rfl rfl rfl rfl rfl rfl ?_
            refine ev_go (tgt := 127) dX3_readCell_118 (by decide) ?_
            refine ev_cst (v := 1) (pc' := 128) dX3_readCell_127 (by decide) rfl ?_
            exact ev_retZ dX3_readCell_128 rfl rfl k
      · have k := k.1 h3
        refine ev_p (pc' := 76) (ls' := [some (.inr (.inr 42)), some (.inl x1), some (.inl r2), some (.inl 0), some (.inl 0), some (.inl r4), some (.inl r6), some (.inl r8)]) (st' := [.inr (.inr 42)]) dX3_readCell_75 rfl ?_
        refine ev_p (pc' := 78) (ls' := [some (.inr (.inr 42)), some (.inl x1), some (.inl r2), some (.inl 0), some (.inl 0), some (.inl r4), some (.inl r6), some (.inl r8)]) (st' := [.inl r6, .inr (.inr 42)]) dX3_readCell_76 rfl ?_
        refine ev_putI (pc' := 81) dX3_readCell_78 rfl rfl rfl rfl rfl rfl ?_
        refine ev_cst (v := 0) (pc' := 82) dX3_readCell_81 (by decide) rfl ?_
        exact ev_retZ dX3_readCell_82 rfl rfl k
    · have k := k.2 h2
      refine ev_p (pc' := 29) (ls' := [some (.inr (.inr 42)), some (.inl x1), some (.inl r2), some (.inl 0), none, none, none, none]) (st' := [.inr (.inr 42)]) dX3_readCell_28 rfl ?_
      refine ev_call (y := 57) (as := [.inr (.inr 42)]) (r := []) (M' := mX3_pop) (pc' := 32) dX3_readCell_29 rfl rfl ⟨rfl, rfl⟩ rfl k rfl (fun v τ3 hq => ?_)
      obtain ⟨r4, hv, k⟩ := hq
      rw [hv]
      change ev mX3_readCell 32 [some (.inr (.inr 42)), some (.inl x1), some (.inl r2), some (.inl 0), none, none, none, none] [.inl r4] τ3 _
      refine ev_go (tgt := 36) dX3_readCell_32 (by decide) ?_
      refine ev_p (pc' := 38) (ls' := [some (.inr (.inr 42)), some (.inl x1), some (.inl r2), some (.inl 0), some (.inl r4), none, none, none]) (st' := []) dX3_readCell_36 rfl ?_
      refine ev_p (pc' := 39) (ls' := [some (.inr (.inr 42)), some (.inl x1), some (.inl r2), some (.inl 0), some (.inl r4), none, none, none]) (st' := [.inl x1]) dX3_readCell_38 rfl ?_
      refine ev_p (pc' := 40) (ls' := [some (.inr (.inr 42)), some (.inl x1), some (.inl r2), some (.inl 0), some (.inl r4), none, none, none]) (st' := [.inl 0, .inl x1]) dX3_readCell_39 rfl ?_
      refine ev_p (pc' := 42) (ls' := [some (.inr (.inr 42)), some (.inl x1), some (.inl r2), some (.inl 0), some (.inl r4), none, none, none]) (st' := [.inl r4, .inl 0, .inl x1]) dX3_readCell_40 rfl ?_
      refine ev_call (y := 45) (as := [.inl x1, .inl 0, .inl r4]) (r := []) (M' := mX6_cellOf) (pc' := 45) dX3_readCell_42 rfl rfl ⟨rfl, rfl⟩ rfl k rfl (fun v τ5 hq => ?_)
      obtain ⟨r6, hv, k⟩ := hq
      rw [hv]
      change ev mX3_readCell 45 [some (.inr (.inr 42)), some (.inl x1), some (.inl r2), some (.inl 0), some (.inl r4), none, none, none] [.inl r6] τ5 _
      refine ev_p (pc' := 47) (ls' := [some (.inr (.inr 42)), some (.inl x1), some (.inl r2), some (.inl 0), some (.inl r4), some (.inl r6), none, none]) (st' := []) dX3_readCell_45 rfl ?_
      refine ev_p (pc' := 48) (ls' := [some (.inr (.inr 42)), some (.inl x1), some (.inl r2), some (.inl 0), some (.inl r4), some (.inl r6), none, none]) (st' := [.inr (.inr 42)]) dX3_readCell_47 rfl ?_
      refine ev_getA (pc' := 51) (z := 37) dX3_readCell_48 rfl rfl rfl rfl ?_
      refine ev_p (pc' := 53) (ls' := [some (.inr (.inr 42)), some (.inl x1), some (.inl r2), some (.inl 0), some (.inl r4), some (.inl r6), none, none]) (st' := [.inl r6, .inr (.inr 37)]) dX3_readCell_51 rfl ?_
      refine ev_call (y := 59) (as := [.inr (.inr 37), .inl r6]) (r := []) (M' := mX6_rankOf) (pc' := 56) dX3_readCell_53 rfl rfl ⟨rfl, rfl⟩ rfl k rfl (fun v τ7 hq => ?_)
      obtain ⟨r8, hv, k⟩ := hq
      rw [hv]
      change ev mX3_readCell 56 [some (.inr (.inr 42)), some (.inl x1), some (.inl r2), some (.inl 0), some (.inl r4), some (.inl r6), none, none] [.inl r8] τ7 _
      refine ev_p (pc' := 58) (ls' := [some (.inr (.inr 42)), some (.inl x1), some (.inl r2), some (.inl 0), some (.inl r4), some (.inl r6), some (.inl r8), none]) (st' := []) dX3_readCell_56 rfl ?_
      refine ev_p (pc' := 59) (ls' := [some (.inr (.inr 42)), some (.inl x1), some (.inl r2), some (.inl 0), some (.inl r4), some (.inl r6), some (.inl r8), none]) (st' := [.inr (.inr 42)]) dX3_readCell_58 rfl ?_
      refine ev_getA (pc' := 62) (z := 37) dX3_readCell_59 rfl rfl rfl rfl ?_
      refine ev_p (pc' := 64) (ls' := [some (.inr (.inr 42)), some (.inl x1), some (.inl r2), some (.inl 0), some (.inl r4), some (.inl r6), some (.inl r8), none]) (st' := [.inl r6, .inr (.inr 37)]) dX3_readCell_62 rfl ?_
      refine ev_call (y := 60) (as := [.inr (.inr 37), .inl r6]) (r := []) (M' := mX6_valueOf) (pc' := 67) dX3_readCell_64 rfl rfl ⟨rfl, rfl⟩ rfl k rfl (fun v τ9 hq => ?_)
      obtain ⟨r10, hv, k⟩ := hq
      rw [hv]
      change ev mX3_readCell 67 [some (.inr (.inr 42)), some (.inl x1), some (.inl r2), some (.inl 0), some (.inl r4), some (.inl r6), some (.inl r8), none] [.inl r10] τ9 _
      refine ev_p (pc' := 69) (ls' := [some (.inr (.inr 42)), some (.inl x1), some (.inl r2), some (.inl 0), some (.inl r4), some (.inl r6), some (.inl r8), some (.inl r10)]) (st' := []) dX3_readCell_67 rfl ?_
      refine ev_p (pc' := 71) (ls' := [some (.inr (.inr 42)), some (.inl x1), some (.inl r2), some (.inl 0), some (.inl r4), some (.inl r6), some (.inl r8), some (.inl r10)]) (st' := [.inl r10]) dX3_readCell_69 rfl ?_
      refine ev_cst (v := (-1)) (pc' := 72) dX3_readCell_71 (by decide) rfl ?_
      refine ev_ic_ne (tgt := 83) (pc' := 75) dX3_readCell_72 (by decide) rfl (fun h6 => ?_) (fun h6 => ?_)
      · have k := k.2 h6
        refine ev_p (pc' := 84) (ls' := [some (.inr (.inr 42)), some (.inl x1), some (.inl r2), some (.inl 0), some (.inl r4), some (.inl r6), some (.inl r8), some (.inl r10)]) (st' := [.inr (.inr 42)]) dX3_readCell_83 rfl ?_
        refine ev_p (pc' := 85) (ls' := [some (.inr (.inr 42)), some (.inl x1), some (.inl r2), some (.inl 0), some (.inl r4), some (.inl r6), some (.inl r8), some (.inl r10)]) (st' := [.inr (.inr 42), .inr (.inr 42)]) dX3_readCell_84 rfl ?_
        refine ev_getI (pc' := 88) dX3_readCell_85 rfl rfl rfl rfl ?_
        refine ev_p (pc' := 90) (ls' := [some (.inr (.inr 42)), some (.inl x1), some (.inl r2), some (.inl 0), some (.inl r4), some (.inl r6), some (.inl r8), some (.inl r10)]) (st' := [.inl r8, .inl (τ9 42 6), .inr (.inr 42)]) dX3_readCell_88 rfl ?_
        refine ev_mm (b := true) (pc' := 93) dX3_readCell_90 rfl rfl rfl rfl ?_
        refine ev_putI (pc' := 96) dX3_readCell_93 rfl rfl rfl rfl rfl rfl ?_
        refine ev_p (pc' := 97) (ls' := [some (.inr (.inr 42)), some (.inl x1), some (.inl r2), some (.inl 0), some (.inl r4), some (.inl r6), some (.inl r8), some (.inl r10)]) (st' := [.inl x1]) dX3_readCell_96 rfl ?_
        refine ev_call (y := 28) (as := [.inl x1]) (r := []) (M' := mX7_isPredicate) (pc' := 100) dX3_readCell_97 rfl rfl ⟨rfl, rfl⟩ rfl k rfl (fun v τ11 hq => ?_)
        obtain ⟨r12, hv, k⟩ := hq
        rw [hv]
        change ev mX3_readCell 100 [some (.inr (.inr 42)), some (.inl x1), some (.inl r2), some (.inl 0), some (.inl r4), some (.inl r6), some (.inl r8), some (.inl r10)] [.inl r12] τ11 _
        refine ev_if_eq (tgt := 121) (pc' := 103) dX3_readCell_100 (by decide) rfl (fun h7 => ?_) (fun h7 => ?_)
        · have k := k.1 h7
          refine ev_p (pc' := 122) (ls' := [some (.inr (.inr 42)), some (.inl x1), some (.inl r2), some (.inl 0), some (.inl r4), some (.inl r6), some (.inl r8), some (.inl r10)]) (st' := [.inr (.inr 42)]) dX3_readCell_121 rfl ?_
          refine ev_p (pc' := 124) (ls' := [some (.inr (.inr 42)), some (.inl x1), some (.inl r2), some (.inl 0), some (.inl r4), some (.inl r6), some (.inl r8), some (.inl r10)]) (st' := [.inl r10, .inr (.inr 42)]) dX3_readCell_122 rfl ?_
          refine ev_call (y := 56) (as := [.inr (.inr 42), .inl r10]) (r := []) (M' := mX3_push) (pc' := 127) dX3_readCell_124 rfl rfl ⟨rfl, rfl⟩ rfl k rfl (fun v τ13 hq => ?_)
          obtain ⟨hv, k⟩ := hq
          rw [hv]
          change ev mX3_readCell 127 [some (.inr (.inr 42)), some (.inl x1), some (.inl r2), some (.inl 0), some (.inl r4), some (.inl r6), some (.inl r8), some (.inl r10)] [] τ13 _
          refine ev_cst (v := 1) (pc' := 128) dX3_readCell_127 (by decide) rfl ?_
          exact ev_retZ dX3_readCell_128 rfl rfl k
        · have k := k.2 h7
          refine ev_p (pc' := 104) (ls' := [some (.inr (.inr 42)), some (.inl x1), some (.inl r2), some (.inl 0), some (.inl r4), some (.inl r6), some (.inl r8), some (.inl r10)]) (st' := [.inr (.inr 42)]) dX3_readCell_103 rfl ?_
          refine ev_p (pc' := 106) (ls' := [some (.inr (.inr 42)), some (.inl x1), some (.inl r2), some (.inl 0), some (.inl r4), some (.inl r6), some (.inl r8), some (.inl r10)]) (st' := [.inl r10, .inr (.inr 42)]) dX3_readCell_104 rfl ?_
          refine ev_cst (v := 1) (pc' := 107) dX3_readCell_106 (by decide) rfl ?_
          refine ev_ic_ne (tgt := 114) (pc' := 110) dX3_readCell_107 (by decide) rfl (fun h8 => ?_) (fun h8 => ?_)
          · have k := k.2 h8
            refine ev_cst (v := 0) (pc' := 115) dX3_readCell_114 (by decide) rfl ?_
            refine ev_putI (pc' := 118) dX3_readCell_115 rfl rfl rfl rfl rfl rfl ?_
            refine ev_go (tgt := 127) dX3_readCell_118 (by decide) ?_
            refine ev_cst (v := 1) (pc' := 128) dX3_readCell_127 (by decide) rfl ?_
            exact ev_retZ dX3_readCell_128 rfl rfl k
          · have k := k.1 h8
            refine ev_cst (v := 1) (pc' := 111) dX3_readCell_110 (by decide) rfl ?_
            refine ev_go (tgt := 115) dX3_readCell_111 (by decide) ?_
            refine ev_putI (pc' := 118) dX3_readCell_115 rfl rfl rfl rfl rfl rfl ?_
            refine ev_go (tgt := 127) dX3_readCell_118 (by decide) ?_
            refine ev_cst (v := 1) (pc' := 128) dX3_readCell_127 (by decide) rfl ?_
            exact ev_retZ dX3_readCell_128 rfl rfl k
      · have k := k.1 h6
        refine ev_p (pc' := 76) (ls' := [some (.inr (.inr 42)), some (.inl x1), some (.inl r2), some (.inl 0), some (.inl r4), some (.inl r6), some (.inl r8), some (.inl r10)]) (st' := [.inr (.inr 42)]) dX3_readCell_75 rfl ?_
        refine ev_p (pc' := 78) (ls' := [some (.inr (.inr 42)), some (.inl x1), some (.inl r2), some (.inl 0), some (.inl r4), some (.inl r6), some (.inl r8), some (.inl r10)]) (st' := [.inl r8, .inr (.inr 42)]) dX3_readCell_76 rfl ?_
        refine ev_putI (pc' := 81) dX3_readCell_78 rfl rfl rfl rfl rfl rfl ?_
        refine ev_cst (v := 0) (pc' := 82) dX3_readCell_81 (by decide) rfl ?_
        exact ev_retZ dX3_readCell_82 rfl rfl k
  · have k := k.2 h1
    refine ev_p (pc' := 15) (ls' := [some (.inr (.inr 42)), some (.inl x1), some (.inl r2), none, none, none, none, none]) (st' := [.inr (.inr 42)]) dX3_readCell_14 rfl ?_
    refine ev_call (y := 57) (as := [.inr (.inr 42)]) (r := []) (M' := mX3_pop) (pc' := 18) dX3_readCell_15 rfl rfl ⟨rfl, rfl⟩ rfl k rfl (fun v τ3 hq => ?_)
    obtain ⟨r4, hv, k⟩ := hq
    rw [hv]
    change ev mX3_readCell 18 [some (.inr (.inr 42)), some (.inl x1), some (.inl r2), none, none, none, none, none] [.inl r4] τ3 _
    refine ev_go (tgt := 22) dX3_readCell_18 (by decide) ?_
    refine ev_p (pc' := 23) (ls' := [some (.inr (.inr 42)), some (.inl x1), some (.inl r2), some (.inl r4), none, none, none, none]) (st' := []) dX3_readCell_22 rfl ?_
    refine ev_p (pc' := 24) (ls' := [some (.inr (.inr 42)), some (.inl x1), some (.inl r2), some (.inl r4), none, none, none, none]) (st' := [.inl r2]) dX3_readCell_23 rfl ?_
    refine ev_cst (v := 2) (pc' := 25) dX3_readCell_24 (by decide) rfl ?_
    refine ev_ic_lt (tgt := 35) (pc' := 28) dX3_readCell_25 (by decide) rfl (fun h9 => ?_) (fun h9 => ?_)
    · have k := k.1 h9
      refine ev_cst (v := 0) (pc' := 36) dX3_readCell_35 (by decide) rfl ?_
      refine ev_p (pc' := 38) (ls' := [some (.inr (.inr 42)), some (.inl x1), some (.inl r2), some (.inl r4), some (.inl 0), none, none, none]) (st' := []) dX3_readCell_36 rfl ?_
      refine ev_p (pc' := 39) (ls' := [some (.inr (.inr 42)), some (.inl x1), some (.inl r2), some (.inl r4), some (.inl 0), none, none, none]) (st' := [.inl x1]) dX3_readCell_38 rfl ?_
      refine ev_p (pc' := 40) (ls' := [some (.inr (.inr 42)), some (.inl x1), some (.inl r2), some (.inl r4), some (.inl 0), none, none, none]) (st' := [.inl r4, .inl x1]) dX3_readCell_39 rfl ?_
      refine ev_p (pc' := 42) (ls' := [some (.inr (.inr 42)), some (.inl x1), some (.inl r2), some (.inl r4), some (.inl 0), none, none, none]) (st' := [.inl 0, .inl r4, .inl x1]) dX3_readCell_40 rfl ?_
      refine ev_call (y := 45) (as := [.inl x1, .inl r4, .inl 0]) (r := []) (M' := mX6_cellOf) (pc' := 45) dX3_readCell_42 rfl rfl ⟨rfl, rfl⟩ rfl k rfl (fun v τ5 hq => ?_)
      obtain ⟨r6, hv, k⟩ := hq
      rw [hv]
      change ev mX3_readCell 45 [some (.inr (.inr 42)), some (.inl x1), some (.inl r2), some (.inl r4), some (.inl 0), none, none, none] [.inl r6] τ5 _
      refine ev_p (pc' := 47) (ls' := [some (.inr (.inr 42)), some (.inl x1), some (.inl r2), some (.inl r4), some (.inl 0), some (.inl r6), none, none]) (st' := []) dX3_readCell_45 rfl ?_
      refine ev_p (pc' := 48) (ls' := [some (.inr (.inr 42)), some (.inl x1), some (.inl r2), some (.inl r4), some (.inl 0), some (.inl r6), none, none]) (st' := [.inr (.inr 42)]) dX3_readCell_47 rfl ?_
      refine ev_getA (pc' := 51) (z := 37) dX3_readCell_48 rfl rfl rfl rfl ?_
      refine ev_p (pc' := 53) (ls' := [some (.inr (.inr 42)), some (.inl x1), some (.inl r2), some (.inl r4), some (.inl 0), some (.inl r6), none, none]) (st' := [.inl r6, .inr (.inr 37)]) dX3_readCell_51 rfl ?_
      refine ev_call (y := 59) (as := [.inr (.inr 37), .inl r6]) (r := []) (M' := mX6_rankOf) (pc' := 56) dX3_readCell_53 rfl rfl ⟨rfl, rfl⟩ rfl k rfl (fun v τ7 hq => ?_)
      obtain ⟨r8, hv, k⟩ := hq
      rw [hv]
      change ev mX3_readCell 56 [some (.inr (.inr 42)), some (.inl x1), some (.inl r2), some (.inl r4), some (.inl 0), some (.inl r6), none, none] [.inl r8] τ7 _
      refine ev_p (pc' := 58) (ls' := [some (.inr (.inr 42)), some (.inl x1), some (.inl r2), some (.inl r4), some (.inl 0), some (.inl r6), some (.inl r8), none]) (st' := []) dX3_readCell_56 rfl ?_
      refine ev_p (pc' := 59) (ls' := [some (.inr (.inr 42)), some (.inl x1), some (.inl r2), some (.inl r4), some (.inl 0), some (.inl r6), some (.inl r8), none]) (st' := [.inr (.inr 42)]) dX3_readCell_58 rfl ?_
      refine ev_getA (pc' := 62) (z := 37) dX3_readCell_59 rfl rfl rfl rfl ?_
      refine ev_p (pc' := 64) (ls' := [some (.inr (.inr 42)), some (.inl x1), some (.inl r2), some (.inl r4), some (.inl 0), some (.inl r6), some (.inl r8), none]) (st' := [.inl r6, .inr (.inr 37)]) dX3_readCell_62 rfl ?_
      refine ev_call (y := 60) (as := [.inr (.inr 37), .inl r6]) (r := []) (M' := mX6_valueOf) (pc' := 67) dX3_readCell_64 rfl rfl ⟨rfl, rfl⟩ rfl k rfl (fun v τ9 hq => ?_)
      obtain ⟨r10, hv, k⟩ := hq
      rw [hv]
      change ev mX3_readCell 67 [some (.inr (.inr 42)), some (.inl x1), some (.inl r2), some (.inl r4), some (.inl 0), some (.inl r6), some (.inl r8), none] [.inl r10] τ9 _
      refine ev_p (pc' := 69) (ls' := [some (.inr (.inr 42)), some (.inl x1), some (.inl r2), some (.inl r4), some (.inl 0), some (.inl r6), some (.inl r8), some (.inl r10)]) (st' := []) dX3_readCell_67 rfl ?_
      refine ev_p (pc' := 71) (ls' := [some (.inr (.inr 42)), some (.inl x1), some (.inl r2), some (.inl r4), some (.inl 0), some (.inl r6), some (.inl r8), some (.inl r10)]) (st' := [.inl r10]) dX3_readCell_69 rfl ?_
      refine ev_cst (v := (-1)) (pc' := 72) dX3_readCell_71 (by decide) rfl ?_
      refine ev_ic_ne (tgt := 83) (pc' := 75) dX3_readCell_72 (by decide) rfl (fun h10 => ?_) (fun h10 => ?_)
      · have k := k.2 h10
        refine ev_p (pc' := 84) (ls' := [some (.inr (.inr 42)), some (.inl x1), some (.inl r2), some (.inl r4), some (.inl 0), some (.inl r6), some (.inl r8), some (.inl r10)]) (st' := [.inr (.inr 42)]) dX3_readCell_83 rfl ?_
        refine ev_p (pc' := 85) (ls' := [some (.inr (.inr 42)), some (.inl x1), some (.inl r2), some (.inl r4), some (.inl 0), some (.inl r6), some (.inl r8), some (.inl r10)]) (st' := [.inr (.inr 42), .inr (.inr 42)]) dX3_readCell_84 rfl ?_
        refine ev_getI (pc' := 88) dX3_readCell_85 rfl rfl rfl rfl ?_
        refine ev_p (pc' := 90) (ls' := [some (.inr (.inr 42)), some (.inl x1), some (.inl r2), some (.inl r4), some (.inl 0), some (.inl r6), some (.inl r8), some (.inl r10)]) (st' := [.inl r8, .inl (τ9 42 6), .inr (.inr 42)]) dX3_readCell_88 rfl ?_
        refine ev_mm (b := true) (pc' := 93) dX3_readCell_90 rfl rfl rfl rfl ?_
        refine ev_putI (pc' := 96) dX3_readCell_93 rfl rfl rfl rfl rfl rfl ?_
        refine ev_p (pc' := 97) (ls' := [some (.inr (.inr 42)), some (.inl x1), some (.inl r2), some (.inl r4), some (.inl 0), some (.inl r6), some (.inl r8), some (.inl r10)]) (st' := [.inl x1]) dX3_readCell_96 rfl ?_
        refine ev_call (y := 28) (as := [.inl x1]) (r := []) (M' := mX7_isPredicate) (pc' := 100) dX3_readCell_97 rfl rfl ⟨rfl, rfl⟩ rfl k rfl (fun v τ11 hq => ?_)
        obtain ⟨r12, hv, k⟩ := hq
        rw [hv]
        change ev mX3_readCell 100 [some (.inr (.inr 42)), some (.inl x1), some (.inl r2), some (.inl r4), some (.inl 0), some (.inl r6), some (.inl r8), some (.inl r10)] [.inl r12] τ11 _
        refine ev_if_eq (tgt := 121) (pc' := 103) dX3_readCell_100 (by decide) rfl (fun h11 => ?_) (fun h11 => ?_)
        · have k := k.1 h11
          refine ev_p (pc' := 122) (ls' := [some (.inr (.inr 42)), some (.inl x1), some (.inl r2), some (.inl r4), some (.inl 0), some (.inl r6), some (.inl r8), some (.inl r10)]) (st' := [.inr (.inr 42)]) dX3_readCell_121 rfl ?_
          refine ev_p (pc' := 124) (ls' := [some (.inr (.inr 42)), some (.inl x1), some (.inl r2), some (.inl r4), some (.inl 0), some (.inl r6), some (.inl r8), some (.inl r10)]) (st' := [.inl r10, .inr (.inr 42)]) dX3_readCell_122 rfl ?_
          refine ev_call (y := 56) (as := [.inr (.inr 42), .inl r10]) (r := []) (M' := mX3_push) (pc' := 127) dX3_readCell_124 rfl rfl ⟨rfl, rfl⟩ rfl k rfl (fun v τ13 hq => ?_)
          obtain ⟨hv, k⟩ := hq
          rw [hv]
          change ev mX3_readCell 127 [some (.inr (.inr 42)), some (.inl x1), some (.inl r2), some (.inl r4), some (.inl 0), some (.inl r6), some (.inl r8), some (.inl r10)] [] τ13 _
          refine ev_cst (v := 1) (pc' := 128) dX3_readCell_127 (by decide) rfl ?_
          exact ev_retZ dX3_readCell_128 rfl rfl k
        · have k := k.2 h11
          refine ev_p (pc' := 104) (ls' := [some (.inr (.inr 42)), some (.inl x1), some (.inl r2), some (.inl r4), some (.inl 0), some (.inl r6), some (.inl r8), some (.inl r10)]) (st' := [.inr (.inr 42)]) dX3_readCell_103 rfl ?_
          refine ev_p (pc' := 106) (ls' := [some (.inr (.inr 42)), some (.inl x1), some (.inl r2), some (.inl r4), some (.inl 0), some (.inl r6), some (.inl r8), some (.inl r10)]) (st' := [.inl r10, .inr (.inr 42)]) dX3_readCell_104 rfl ?_
          refine ev_cst (v := 1) (pc' := 107) dX3_readCell_106 (by decide) rfl ?_
          refine ev_ic_ne (tgt := 114) (pc' := 110) dX3_readCell_107 (by decide) rfl (fun h12 => ?_) (fun h12 => ?_)
          · have k := k.2 h12
            refine ev_cst (v := 0) (pc' := 115) dX3_readCell_114 (by decide) rfl ?_
            refine ev_putI (pc' := 118) dX3_readCell_115 rfl rfl rfl rfl rfl rfl ?_
            refine ev_go (tgt := 127) dX3_readCell_118 (by decide) ?_
            refine ev_cst (v := 1) (pc' := 128) dX3_readCell_127 (by decide) rfl ?_
            exact ev_retZ dX3_readCell_128 rfl rfl k
          · have k := k.1 h12
            refine ev_cst (v := 1) (pc' := 111) dX3_readCell_110 (by decide) rfl ?_
            refine ev_go (tgt := 115) dX3_readCell_111 (by decide) ?_
            refine ev_putI (pc' := 118) dX3_readCell_115 rfl rfl rfl rfl rfl rfl ?_
            refine ev_go (tgt := 127) dX3_readCell_118 (by decide) ?_
            refine ev_cst (v := 1) (pc' := 128) dX3_readCell_127 (by decide) rfl ?_
            exact ev_retZ dX3_readCell_128 rfl rfl k
      · have k := k.1 h10
        refine ev_p (pc' := 76) (ls' := [some (.inr (.inr 42)), some (.inl x1), some (.inl r2), some (.inl r4), some (.inl 0), some (.inl r6), some (.inl r8), some (.inl r10)]) (st' := [.inr (.inr 42)]) dX3_readCell_75 rfl ?_
        refine ev_p (pc' := 78) (ls' := [some (.inr (.inr 42)), some (.inl x1), some (.inl r2), some (.inl r4), some (.inl 0), some (.inl r6), some (.inl r8), some (.inl r10)]) (st' := [.inl r8, .inr (.inr 42)]) dX3_readCell_76 rfl ?_
        refine ev_putI (pc' := 81) dX3_readCell_78 rfl rfl rfl rfl rfl rfl ?_
        refine ev_cst (v := 0) (pc' := 82) dX3_readCell_81 (by decide) rfl ?_
        exact ev_retZ dX3_readCell_82 rfl rfl k
    · have k := k.2 h9
      refine ev_p (pc' := 29) (ls' := [some (.inr (.inr 42)), some (.inl x1), some (.inl r2), some (.inl r4), none, none, none, none]) (st' := [.inr (.inr 42)]) dX3_readCell_28 rfl ?_
      refine ev_call (y := 57) (as := [.inr (.inr 42)]) (r := []) (M' := mX3_pop) (pc' := 32) dX3_readCell_29 rfl rfl ⟨rfl, rfl⟩ rfl k rfl (fun v τ5 hq => ?_)
      obtain ⟨r6, hv, k⟩ := hq
      rw [hv]
      change ev mX3_readCell 32 [some (.inr (.inr 42)), some (.inl x1), some (.inl r2), some (.inl r4), none, none, none, none] [.inl r6] τ5 _
      refine ev_go (tgt := 36) dX3_readCell_32 (by decide) ?_
      refine ev_p (pc' := 38) (ls' := [some (.inr (.inr 42)), some (.inl x1), some (.inl r2), some (.inl r4), some (.inl r6), none, none, none]) (st' := []) dX3_readCell_36 rfl ?_
      refine ev_p (pc' := 39) (ls' := [some (.inr (.inr 42)), some (.inl x1), some (.inl r2), some (.inl r4), some (.inl r6), none, none, none]) (st' := [.inl x1]) dX3_readCell_38 rfl ?_
      refine ev_p (pc' := 40) (ls' := [some (.inr (.inr 42)), some (.inl x1), some (.inl r2), some (.inl r4), some (.inl r6), none, none, none]) (st' := [.inl r4, .inl x1]) dX3_readCell_39 rfl ?_
      refine ev_p (pc' := 42) (ls' := [some (.inr (.inr 42)), some (.inl x1), some (.inl r2), some (.inl r4), some (.inl r6), none, none, none]) (st' := [.inl r6, .inl r4, .inl x1]) dX3_readCell_40 rfl ?_
      refine ev_call (y := 45) (as := [.inl x1, .inl r4, .inl r6]) (r := []) (M' := mX6_cellOf) (pc' := 45) dX3_readCell_42 rfl rfl ⟨rfl, rfl⟩ rfl k rfl (fun v τ7 hq => ?_)
      obtain ⟨r8, hv, k⟩ := hq
      rw [hv]
      change ev mX3_readCell 45 [some (.inr (.inr 42)), some (.inl x1), some (.inl r2), some (.inl r4), some (.inl r6), none, none, none] [.inl r8] τ7 _
      refine ev_p (pc' := 47) (ls' := [some (.inr (.inr 42)), some (.inl x1), some (.inl r2), some (.inl r4), some (.inl r6), some (.inl r8), none, none]) (st' := []) dX3_readCell_45 rfl ?_
      refine ev_p (pc' := 48) (ls' := [some (.inr (.inr 42)), some (.inl x1), some (.inl r2), some (.inl r4), some (.inl r6), some (.inl r8), none, none]) (st' := [.inr (.inr 42)]) dX3_readCell_47 rfl ?_
      refine ev_getA (pc' := 51) (z := 37) dX3_readCell_48 rfl rfl rfl rfl ?_
      refine ev_p (pc' := 53) (ls' := [some (.inr (.inr 42)), some (.inl x1), some (.inl r2), some (.inl r4), some (.inl r6), some (.inl r8), none, none]) (st' := [.inl r8, .inr (.inr 37)]) dX3_readCell_51 rfl ?_
      refine ev_call (y := 59) (as := [.inr (.inr 37), .inl r8]) (r := []) (M' := mX6_rankOf) (pc' := 56) dX3_readCell_53 rfl rfl ⟨rfl, rfl⟩ rfl k rfl (fun v τ9 hq => ?_)
      obtain ⟨r10, hv, k⟩ := hq
      rw [hv]
      change ev mX3_readCell 56 [some (.inr (.inr 42)), some (.inl x1), some (.inl r2), some (.inl r4), some (.inl r6), some (.inl r8), none, none] [.inl r10] τ9 _
      refine ev_p (pc' := 58) (ls' := [some (.inr (.inr 42)), some (.inl x1), some (.inl r2), some (.inl r4), some (.inl r6), some (.inl r8), some (.inl r10), none]) (st' := []) dX3_readCell_56 rfl ?_
      refine ev_p (pc' := 59) (ls' := [some (.inr (.inr 42)), some (.inl x1), some (.inl r2), some (.inl r4), some (.inl r6), some (.inl r8), some (.inl r10), none]) (st' := [.inr (.inr 42)]) dX3_readCell_58 rfl ?_
      refine ev_getA (pc' := 62) (z := 37) dX3_readCell_59 rfl rfl rfl rfl ?_
      refine ev_p (pc' := 64) (ls' := [some (.inr (.inr 42)), some (.inl x1), some (.inl r2), some (.inl r4), some (.inl r6), some (.inl r8), some (.inl r10), none]) (st' := [.inl r8, .inr (.inr 37)]) dX3_readCell_62 rfl ?_
      refine ev_call (y := 60) (as := [.inr (.inr 37), .inl r8]) (r := []) (M' := mX6_valueOf) (pc' := 67) dX3_readCell_64 rfl rfl ⟨rfl, rfl⟩ rfl k rfl (fun v τ11 hq => ?_)
      obtain ⟨r12, hv, k⟩ := hq
      rw [hv]
      change ev mX3_readCell 67 [some (.inr (.inr 42)), some (.inl x1), some (.inl r2), some (.inl r4), some (.inl r6), some (.inl r8), some (.inl r10), none] [.inl r12] τ11 _
      refine ev_p (pc' := 69) (ls' := [some (.inr (.inr 42)), some (.inl x1), some (.inl r2), some (.inl r4), some (.inl r6), some (.inl r8), some (.inl r10), some (.inl r12)]) (st' := []) dX3_readCell_67 rfl ?_
      refine ev_p (pc' := 71) (ls' := [some (.inr (.inr 42)), some (.inl x1), some (.inl r2), some (.inl r4), some (.inl r6), some (.inl r8), some (.inl r10), some (.inl r12)]) (st' := [.inl r12]) dX3_readCell_69 rfl ?_
      refine ev_cst (v := (-1)) (pc' := 72) dX3_readCell_71 (by decide) rfl ?_
      refine ev_ic_ne (tgt := 83) (pc' := 75) dX3_readCell_72 (by decide) rfl (fun h13 => ?_) (fun h13 => ?_)
      · have k := k.2 h13
        refine ev_p (pc' := 84) (ls' := [some (.inr (.inr 42)), some (.inl x1), some (.inl r2), some (.inl r4), some (.inl r6), some (.inl r8), some (.inl r10), some (.inl r12)]) (st' := [.inr (.inr 42)]) dX3_readCell_83 rfl ?_
        refine ev_p (pc' := 85) (ls' := [some (.inr (.inr 42)), some (.inl x1), some (.inl r2), some (.inl r4), some (.inl r6), some (.inl r8), some (.inl r10), some (.inl r12)]) (st' := [.inr (.inr 42), .inr (.inr 42)]) dX3_readCell_84 rfl ?_
        refine ev_getI (pc' := 88) dX3_readCell_85 rfl rfl rfl rfl ?_
        refine ev_p (pc' := 90) (ls' := [some (.inr (.inr 42)), some (.inl x1), some (.inl r2), some (.inl r4), some (.inl r6), some (.inl r8), some (.inl r10), some (.inl r12)]) (st' := [.inl r10, .inl (τ11 42 6), .inr (.inr 42)]) dX3_readCell_88 rfl ?_
        refine ev_mm (b := true) (pc' := 93) dX3_readCell_90 rfl rfl rfl rfl ?_
        refine ev_putI (pc' := 96) dX3_readCell_93 rfl rfl rfl rfl rfl rfl ?_
        refine ev_p (pc' := 97) (ls' := [some (.inr (.inr 42)), some (.inl x1), some (.inl r2), some (.inl r4), some (.inl r6), some (.inl r8), some (.inl r10), some (.inl r12)]) (st' := [.inl x1]) dX3_readCell_96 rfl ?_
        refine ev_call (y := 28) (as := [.inl x1]) (r := []) (M' := mX7_isPredicate) (pc' := 100) dX3_readCell_97 rfl rfl ⟨rfl, rfl⟩ rfl k rfl (fun v τ13 hq => ?_)
        obtain ⟨r14, hv, k⟩ := hq
        rw [hv]
        change ev mX3_readCell 100 [some (.inr (.inr 42)), some (.inl x1), some (.inl r2), some (.inl r4), some (.inl r6), some (.inl r8), some (.inl r10), some (.inl r12)] [.inl r14] τ13 _
        refine ev_if_eq (tgt := 121) (pc' := 103) dX3_readCell_100 (by decide) rfl (fun h14 => ?_) (fun h14 => ?_)
        · have k := k.1 h14
          refine ev_p (pc' := 122) (ls' := [some (.inr (.inr 42)), some (.inl x1), some (.inl r2), some (.inl r4), some (.inl r6), some (.inl r8), some (.inl r10), some (.inl r12)]) (st' := [.inr (.inr 42)]) dX3_readCell_121 rfl ?_
          refine ev_p (pc' := 124) (ls' := [some (.inr (.inr 42)), some (.inl x1), some (.inl r2), some (.inl r4), some (.inl r6), some (.inl r8), some (.inl r10), some (.inl r12)]) (st' := [.inl r12, .inr (.inr 42)]) dX3_readCell_122 rfl ?_
          refine ev_call (y := 56) (as := [.inr (.inr 42), .inl r12]) (r := []) (M' := mX3_push) (pc' := 127) dX3_readCell_124 rfl rfl ⟨rfl, rfl⟩ rfl k rfl (fun v τ15 hq => ?_)
          obtain ⟨hv, k⟩ := hq
          rw [hv]
          change ev mX3_readCell 127 [some (.inr (.inr 42)), some (.inl x1), some (.inl r2), some (.inl r4), some (.inl r6), some (.inl r8), some (.inl r10), some (.inl r12)] [] τ15 _
          refine ev_cst (v := 1) (pc' := 128) dX3_readCell_127 (by decide) rfl ?_
          exact ev_retZ dX3_readCell_128 rfl rfl k
        · have k := k.2 h14
          refine ev_p (pc' := 104) (ls' := [some (.inr (.inr 42)), some (.inl x1), some (.inl r2), some (.inl r4), some (.inl r6), some (.inl r8), some (.inl r10), some (.inl r12)]) (st' := [.inr (.inr 42)]) dX3_readCell_103 rfl ?_
          refine ev_p (pc' := 106) (ls' := [some (.inr (.inr 42)), some (.inl x1), some (.inl r2), some (.inl r4), some (.inl r6), some (.inl r8), some (.inl r10), some (.inl r12)]) (st' := [.inl r12, .inr (.inr 42)]) dX3_readCell_104 rfl ?_
          refine ev_cst (v := 1) (pc' := 107) dX3_readCell_106 (by decide) rfl ?_
          refine ev_ic_ne (tgt := 114) (pc' := 110) dX3_readCell_107 (by decide) rfl (fun h15 => ?_) (fun h15 => ?_)
          · have k := k.2 h15
            refine ev_cst (v := 0) (pc' := 115) dX3_readCell_114 (by decide) rfl ?_
            refine ev_putI (pc' := 118) dX3_readCell_115 rfl rfl rfl rfl rfl rfl ?_
            refine ev_go (tgt := 127) dX3_readCell_118 (by decide) ?_
            refine ev_cst (v := 1) (pc' := 128) dX3_readCell_127 (by decide) rfl ?_
            exact ev_retZ dX3_readCell_128 rfl rfl k
          · have k := k.1 h15
            refine ev_cst (v := 1) (pc' := 111) dX3_readCell_110 (by decide) rfl ?_
            refine ev_go (tgt := 115) dX3_readCell_111 (by decide) ?_
            refine ev_putI (pc' := 118) dX3_readCell_115 rfl rfl rfl rfl rfl rfl ?_
            refine ev_go (tgt := 127) dX3_readCell_118 (by decide) ?_
            refine ev_cst (v := 1) (pc' := 128) dX3_readCell_127 (by decide) rfl ?_
            exact ev_retZ dX3_readCell_128 rfl rfl k
      · have k := k.1 h13
        refine ev_p (pc' := 76) (ls' := [some (.inr (.inr 42)), some (.inl x1), some (.inl r2), some (.inl r4), some (.inl r6), some (.inl r8), some (.inl r10), some (.inl r12)]) (st' := [.inr (.inr 42)]) dX3_readCell_75 rfl ?_
        refine ev_p (pc' := 78) (ls' := [some (.inr (.inr 42)), some (.inl x1), some (.inl r2), some (.inl r4), some (.inl r6), some (.inl r8), some (.inl r10), some (.inl r12)]) (st' := [.inl r10, .inr (.inr 42)]) dX3_readCell_76 rfl ?_
        refine ev_putI (pc' := 81) dX3_readCell_78 rfl rfl rfl rfl rfl rfl ?_
        refine ev_cst (v := 0) (pc' := 82) dX3_readCell_81 (by decide) rfl ?_
        exact ev_retZ dX3_readCell_82 rfl rfl k
set_option maxRecDepth 20000 in
theorem s_X3_greatestRead_0 {σ : ab_M} {Q : Option ab_V → ab_M → Prop} 
    (k : Q (some (.inl (σ 42 6))) σ) :
    ev mX3_greatestRead 0 [some (.inr (.inr 42))] [] σ Q := by
  refine ev_p (pc' := 1) (ls' := [some (.inr (.inr 42))]) (st' := [.inr (.inr 42)]) dX3_greatestRead_0 rfl ?_
  refine ev_getI (pc' := 4) dX3_greatestRead_1 rfl rfl rfl rfl ?_
  exact ev_ret dX3_greatestRead_4 rfl k
set_option maxRecDepth 20000 in
theorem s_X3_missing_0 {σ : ab_M} {Q : Option ab_V → ab_M → Prop} 
    (k : Q (some (.inl (σ 42 7))) σ) :
    ev mX3_missing 0 [some (.inr (.inr 42))] [] σ Q := by
  refine ev_p (pc' := 1) (ls' := [some (.inr (.inr 42))]) (st' := [.inr (.inr 42)]) dX3_missing_0 rfl ?_
  refine ev_getI (pc' := 4) dX3_missing_1 rfl rfl rfl rfl ?_
  exact ev_ret dX3_missing_4 rfl k
